/-! DOUBLES: what both sides reckon is no NaN -/
/-- an encoding of a number or of an infinity -/
def Enc (n : Nat) : Prop := ∃ S E T : Nat, n = (S * 2048 + E) * 4503599627370496 + T ∧ S ≤ 1 ∧ T < 4503599627370496 ∧ (E ≤ 2046 ∨ (E = 2047 ∧ T = 0))
theorem enc_fields {n S E T : Nat} (h : n = (S * 2048 + E) * 4503599627370496 + T) (hE : E < 2048) (hT : T < 4503599627370496) : FP.Core.fieldT FP.Core.b64 n = T ∧ FP.Core.fieldE FP.Core.b64 n = E := by
  unfold FP.Core.fieldT FP.Core.fieldE
  rw [show FP.Core.b64.tails = 4503599627370496 from rfl, show FP.Core.b64.exps = 2048 from rfl]
  omega
theorem Enc.lt {n : Nat} (h : Enc n) : n < 18446744073709551616 := by
  obtain ⟨S, E, T, e, h1, h2, h3⟩ := h
  omega
theorem Enc.nn {n : Nat} (h : Enc n) : FP.Core.decode FP.Core.b64 n ≠ .nan := by
  obtain ⟨S, E, T, e, h1, h2, h3⟩ := h
  obtain ⟨f1, f2⟩ := enc_fields e (by omega) h2
  unfold FP.Core.decode
  rw [f1, f2, show FP.Core.b64.exps = 2048 from rfl]
  rcases h3 with h3 | ⟨h3, h4⟩
  · rw [if_neg (by omega)]
    by_cases q : E = 0
    · rw [if_pos q]
      exact fun z => by cases z
    · rw [if_neg q]
      exact fun z => by cases z
  · rw [if_pos (by omega), if_pos h4]
    exact fun z => by cases z
theorem Enc.vf {n : Nat} (h : Enc n) : vf_n64 (UInt64.ofNat n) := by
  have hlt := h.lt
  obtain ⟨S, E, T, e, h1, h2, h3⟩ := h
  unfold vf_n64
  rw [UInt64.le_iff_toNat_le, UInt64.toNat_and, UInt64.toNat_ofNat_of_lt' (show n < 2 ^ 64 by omega)]
  rw [show (0x7fffffffffffffff : UInt64).toNat = 2 ^ 63 - 1 by decide, Nat.and_two_pow_sub_one_eq_mod]
  rw [show (0x7ff0000000000000 : UInt64).toNat = 9218868437227405312 by decide]
  omega
/-- a datum that is a number of the format, or an infinity -/
def Gd (d : FP.Core.Datum) : Prop := (∃ s, d = .inf s) ∨ ∃ s c q, d = .fin s c q ∧ c < 9007199254740992 ∧ q ≤ 971
theorem Gd.enc {d : FP.Core.Datum} (h : Gd d) : Enc (FP.Core.encode FP.Core.b64 d) := by
  have hS : ∀ s : Bool, s.toNat ≤ 1 := fun s => by cases s <;> decide
  rcases h with ⟨s, rfl⟩ | ⟨s, c, q, rfl, hc, hq⟩
  · exact ⟨s.toNat, 2047, 0, rfl, hS s, by decide, Or.inr ⟨rfl, rfl⟩⟩
  · show Enc (if c < FP.Core.b64.tails then _ else _)
    rw [show FP.Core.b64.tails = 4503599627370496 from rfl]
    by_cases w : c < 4503599627370496
    · rw [if_pos w]
      exact ⟨s.toNat, 0, c, rfl, hS s, w, Or.inl (by decide)⟩
    · rw [if_neg w]
      refine ⟨s.toNat, (q - FP.Core.b64.qmin).toNat + 1, c - 4503599627370496, rfl, hS s, by omega, Or.inl ?_⟩
      rw [show FP.Core.b64.qmin = -1074 from rfl]
      omega
theorem Gd.nz {s : Bool} {c : Nat} {q : Int} (hc : c < 9007199254740992) (hq : q ≤ 971) (h0 : c ≠ 0) : ∃ s' c' q', FP.Core.decode FP.Core.b64 (FP.Core.encode FP.Core.b64 (.fin s c q)) = .fin s' c' q' ∧ c' ≠ 0 := by
  show ∃ s' c' q', FP.Core.decode FP.Core.b64 (if c < FP.Core.b64.tails then _ else _) = _ ∧ _
  rw [show FP.Core.b64.tails = 4503599627370496 from rfl]
  by_cases w : c < 4503599627370496
  · rw [if_pos w]
    obtain ⟨f1, f2⟩ := enc_fields (n := FP.Core.assemble FP.Core.b64 s 0 c) (S := s.toNat) (E := 0) (T := c) rfl (by decide) w
    unfold FP.Core.decode
    rw [f1, f2, if_neg (by decide), if_pos rfl]
    exact ⟨_, _, _, rfl, h0⟩
  · rw [if_neg w]
    have hE : (q - FP.Core.b64.qmin).toNat + 1 ≤ 2046 := by
      rw [show FP.Core.b64.qmin = -1074 from rfl]
      omega
    obtain ⟨f1, f2⟩ := enc_fields (n := FP.Core.assemble FP.Core.b64 s ((q - FP.Core.b64.qmin).toNat + 1) (c - 4503599627370496)) (S := s.toNat) (E := (q - FP.Core.b64.qmin).toNat + 1) (T := c - 4503599627370496) rfl (by omega) (by omega)
    unfold FP.Core.decode
    rw [f1, f2, show FP.Core.b64.exps = 2048 from rfl, if_neg (by omega), if_neg (by omega)]
    refine ⟨_, _, _, rfl, ?_⟩
    rw [show FP.Core.b64.tails = 4503599627370496 from rfl]
    omega
theorem gd_bound {s : Bool} {c : Nat} {q : Int} (hc : c < 9007199254740992) : Gd (FP.Core.bound FP.Core.b64 s c q) := by
  unfold FP.Core.bound
  rw [show FP.Core.b64.qmax = 971 from rfl]
  by_cases w : q ≤ 971
  · rw [if_pos w]
    exact Or.inr ⟨s, c, q, rfl, hc, w⟩
  · rw [if_neg w]
    exact Or.inl ⟨s, rfl⟩
theorem gd_settle (s : Bool) (c : Nat) (q : Int) : Gd (FP.Core.settle FP.Core.b64 s c q) := by
  unfold FP.Core.settle
  by_cases w : c < 2 ^ FP.Core.b64.p
  · rw [if_pos w]
    exact gd_bound w
  · rw [if_neg w]
    exact gd_bound (by decide)
theorem gd_ratio (s : Bool) (num den : Nat) (e : Int) : Gd (FP.Core.roundRatio FP.Core.b64 s num den e) := by
  unfold FP.Core.roundRatio
  by_cases w : num = 0
  · rw [if_pos w]
    exact Or.inr ⟨s, 0, _, rfl, by decide, by decide⟩
  · rw [if_neg w]
    exact gd_settle _ _ _
theorem gd_int (i : Int) : Enc (FP.Core.fromInt FP.Core.b64 i) := (gd_ratio _ _ _ _).enc
/-- a number that is not 0 -/
def Nz (n : Nat) : Prop := Enc n ∧ ∃ s c q, FP.Core.decode FP.Core.b64 n = .fin s c q ∧ c ≠ 0
theorem nz_int {d : Nat} (h0 : 0 < d) (hd : d < 2 ^ 31) : Nz (FP.Core.fromInt FP.Core.b64 (d : Int)) := by
  refine ⟨gd_int _, ?_⟩
  show ∃ s c q, FP.Core.decode FP.Core.b64 (FP.Core.encode FP.Core.b64 (FP.Core.roundRatio FP.Core.b64 (decide ((d : Int) < 0)) (d : Int).natAbs 1 0)) = .fin s c q ∧ c ≠ 0
  rw [Int.natAbs_natCast]
  unfold FP.Core.roundRatio
  rw [if_neg (by omega)]
  -- the exponent of the last digit
  have hlog : Nat.log2 d < 31 := (Nat.log2_lt (by omega)).mpr hd
  have hlead : FP.Core.leading d 1 ≤ 30 := by
    unfold FP.Core.leading
    have e1 : Nat.log2 1 = 0 := by decide
    rw [e1]
    simp only
    split <;> omega
  have hq : FP.Core.quantum FP.Core.b64 d 1 0 ≤ -22 := by
    unfold FP.Core.quantum
    rw [show FP.Core.b64.qmin = -1074 from rfl, show FP.Core.b64.p = 53 from rfl]
    omega
  unfold FP.Core.roundAt
  have hun : FP.Core.unitsDen 1 0 (FP.Core.quantum FP.Core.b64 d 1 0) = 1 := by
    unfold FP.Core.unitsDen
    rw [show (FP.Core.quantum FP.Core.b64 d 1 0 - 0).toNat = 0 by omega]
  have hnum : 1 ≤ FP.Core.unitsNum d 0 (FP.Core.quantum FP.Core.b64 d 1 0) := by
    unfold FP.Core.unitsNum
    exact Nat.mul_pos h0 (Nat.two_pow_pos _)
  have hnear : FP.Core.nearest (FP.Core.unitsNum d 0 (FP.Core.quantum FP.Core.b64 d 1 0)) 1 = FP.Core.unitsNum d 0 (FP.Core.quantum FP.Core.b64 d 1 0) := by
    unfold FP.Core.nearest
    rw [Nat.mod_one, if_pos (by decide), Nat.div_one]
  rw [hun, hnear]
  unfold FP.Core.settle FP.Core.bound
  rw [show FP.Core.b64.qmax = 971 from rfl]
  by_cases w : FP.Core.unitsNum d 0 (FP.Core.quantum FP.Core.b64 d 1 0) < 2 ^ FP.Core.b64.p
  · rw [if_pos w, if_pos (by omega)]
    exact Gd.nz w (by omega) (by omega)
  · rw [if_neg w, if_pos (by omega)]
    exact Gd.nz (by decide) (by omega) (by decide)
theorem enc_toNat {n : Nat} (h : Enc n) : (UInt64.ofNat n).toNat = n := UInt64.toNat_ofNat_of_lt' (show n < 2 ^ 64 from h.lt)
theorem enc_mul {x y : Nat} (hx : Enc x) (hy : Nz y) : Enc (FP.Core.mul FP.Core.b64 x y) := by
  obtain ⟨-, t, c, r, e, h0⟩ := hy
  unfold FP.Core.mul
  rw [e]
  refine Gd.enc ?_
  have hn := hx.nn
  cases q : FP.Core.decode FP.Core.b64 x with
  | nan => exact absurd q hn
  | inf s =>
    show Gd (FP.Core.round FP.Core.b64 (if c = 0 then _ else _))
    rw [if_neg h0]
    exact Or.inl ⟨_, rfl⟩
  | fin s c' q' => exact gd_ratio _ _ _ _
theorem enc_div {x y : Nat} (hx : Enc x) (hy : Nz y) : Enc (FP.Core.div FP.Core.b64 x y) := by
  obtain ⟨-, t, c, r, e, h0⟩ := hy
  unfold FP.Core.div
  rw [e]
  refine Gd.enc ?_
  have hn := hx.nn
  cases q : FP.Core.decode FP.Core.b64 x with
  | nan => exact absurd q hn
  | inf s => exact Or.inl ⟨_, rfl⟩
  | fin s c' q' =>
    show Gd (if c = 0 then _ else _)
    rw [if_neg h0]
    exact gd_ratio _ _ _ _
theorem nz_3600 : Nz (4660134898793709568 : UInt64).toNat := by
  refine ⟨⟨0, 1034, 3412884092616704, by decide, by decide, by decide, Or.inl (by decide)⟩, false, 7916483719987200, -41, by decide +kernel, by decide⟩
/-- what is reckoned with a number n below is told by its encoding -/
def isEnc (r : UInt64) : Prop := ∃ n, Enc n ∧ r = UInt64.ofNat n
theorem isEnc.vf {r : UInt64} (h : isEnc r) : vf_n64 r := by
  obtain ⟨n, hn, rfl⟩ := h
  exact hn.vf
theorem isEnc.eq {r : UInt64} (h : isEnc r) : FP.dcmp r r = some .eq := by
  obtain ⟨n, hn, rfl⟩ := h
  show FP.Core.order (FP.Core.decode FP.Core.b64 (UInt64.ofNat n).toNat) (FP.Core.decode FP.Core.b64 (UInt64.ofNat n).toNat) = _
  rw [enc_toNat hn]
  have hnn := hn.nn
  have self : ∀ i : Int, compare i i = .eq := fun i => Int.compare_eq_eq.mpr rfl
  cases q : FP.Core.decode FP.Core.b64 n with
  | nan => exact absurd q hnn
  | inf s => exact congrArg some (self _)
  | fin s c q' => exact congrArg some (self _)
theorem enc_l2d (x : Int64) : isEnc (FP.l2d x) := ⟨_, gd_int _, rfl⟩
theorem isEnc_div {a : UInt64} (ha : isEnc a) {d : Nat} (h0 : 0 < d) (hd : d < 2 ^ 31) : isEnc (FP.ddiv a (FP.i2d (nI d))) := by
  obtain ⟨n, hn, rfl⟩ := ha
  have hz := nz_int h0 hd
  refine ⟨_, enc_div hn hz, ?_⟩
  show UInt64.ofNat (FP.Core.div FP.Core.b64 (UInt64.ofNat n).toNat (UInt64.ofNat (FP.Core.fromInt FP.Core.b64 (nI d).toInt)).toNat) = _
  rw [enc_toNat hn, nI_toInt hd, enc_toNat hz.1]
theorem isEnc_mul (x : Int64) : isEnc (FP.dmul (FP.l2d x) (4660134898793709568 : UInt64)) := by
  refine ⟨_, enc_mul (gd_int x.toInt) nz_3600, ?_⟩
  show UInt64.ofNat (FP.Core.mul FP.Core.b64 (UInt64.ofNat (FP.Core.fromInt FP.Core.b64 x.toInt)).toNat (4660134898793709568 : UInt64).toNat) = _
  rw [enc_toNat (gd_int x.toInt)]
theorem rat_enc (x : Int64) {d : Nat} (h0 : 0 < d) (hd : d < 2 ^ 31) : isEnc (rat x d) := isEnc_div (isEnc_mul x) h0 hd
theorem avg_enc {L : List Int32} (h : L ≠ []) (hl : L.length < 2 ^ 26) : isEnc (avg L) := isEnc_div (enc_l2d _) (List.length_pos_iff.mpr h) (by omega)
