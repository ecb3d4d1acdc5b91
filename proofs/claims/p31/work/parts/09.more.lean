/-! SMALL ROWS: what reads say behind writes, throws' names, a script's case out of range -/
theorem xN_2 {k : Nat} (h0 : ¬ k = 0) (h1 : ¬ k = 1) : xN k = xN 2 := by
  match k, h0, h1 with
  | 0, h, _ => exact absurd rfl h
  | 1, _, h => exact absurd rfl h
  | k + 2, _, _ => rfl
theorem xs_out {x : Int32} (h : ¬ vp_in x 28) : x.toInt < 0 ∨ 27 < x.toInt := by
  rw [vp_in_iff] at h
  omega
theorem k_sI (m : MM) (g a : Nat) (v : Int32) : mK (sI m g a v) = mK m := id rfl
theorem k_sJ (m : MM) (g a : Nat) (v : Int64) : mK (sJ m g a v) = mK m := id rfl
theorem k_sR (m : MM) (g a : Nat) (v : Option Nat) : mK (sR m g a v) = mK m := id rfl
theorem k_sAI (m : MM) (a : Nat) (f : Nat → Int32) : mK (sAI m a f) = mK m := id rfl
theorem k_sAJ (m : MM) (a : Nat) (f : Nat → Int64) : mK (sAJ m a f) = mK m := id rfl
theorem k_sAD (m : MM) (a : Nat) (f : Nat → UInt64) : mK (sAD m a f) = mK m := id rfl
theorem k_sAR (m : MM) (a : Nat) (f : Nat → Option Nat) : mK (sAR m a f) = mK m := id rfl
theorem k_nw (m : MM) (k n a b : Nat) : mK (nw m k n a) b = if b = a then k else mK m b := id rfl
theorem n_sI (m : MM) (g a : Nat) (v : Int32) : mN (sI m g a v) = mN m := id rfl
theorem n_sJ (m : MM) (g a : Nat) (v : Int64) : mN (sJ m g a v) = mN m := id rfl
theorem n_sR (m : MM) (g a : Nat) (v : Option Nat) : mN (sR m g a v) = mN m := id rfl
theorem n_sAI (m : MM) (a : Nat) (f : Nat → Int32) : mN (sAI m a f) = mN m := id rfl
theorem n_sAJ (m : MM) (a : Nat) (f : Nat → Int64) : mN (sAJ m a f) = mN m := id rfl
theorem n_sAD (m : MM) (a : Nat) (f : Nat → UInt64) : mN (sAD m a f) = mN m := id rfl
theorem n_sAR (m : MM) (a : Nat) (f : Nat → Option Nat) : mN (sAR m a f) = mN m := id rfl
theorem n_nw (m : MM) (k n a b : Nat) : mN (nw m k n a) b = if b = a then n else mN m b := id rfl
theorem i_sI (m : MM) (g a : Nat) (v : Int32) (h b : Nat) : mI (sI m g a v) h b = if h = g ∧ b = a then v else mI m h b := id rfl
theorem i_sJ (m : MM) (g a : Nat) (v : Int64) : mI (sJ m g a v) = mI m := id rfl
theorem i_sR (m : MM) (g a : Nat) (v : Option Nat) : mI (sR m g a v) = mI m := id rfl
theorem i_sAI (m : MM) (a : Nat) (f : Nat → Int32) : mI (sAI m a f) = mI m := id rfl
theorem i_sAJ (m : MM) (a : Nat) (f : Nat → Int64) : mI (sAJ m a f) = mI m := id rfl
theorem i_sAD (m : MM) (a : Nat) (f : Nat → UInt64) : mI (sAD m a f) = mI m := id rfl
theorem i_sAR (m : MM) (a : Nat) (f : Nat → Option Nat) : mI (sAR m a f) = mI m := id rfl
theorem i_nw (m : MM) (k n a h b : Nat) : mI (nw m k n a) h b = if b = a then 0 else mI m h b := id rfl
theorem j_sI (m : MM) (g a : Nat) (v : Int32) : mJ (sI m g a v) = mJ m := id rfl
theorem j_sJ (m : MM) (g a : Nat) (v : Int64) (h b : Nat) : mJ (sJ m g a v) h b = if h = g ∧ b = a then v else mJ m h b := id rfl
theorem j_sR (m : MM) (g a : Nat) (v : Option Nat) : mJ (sR m g a v) = mJ m := id rfl
theorem j_sAI (m : MM) (a : Nat) (f : Nat → Int32) : mJ (sAI m a f) = mJ m := id rfl
theorem j_sAJ (m : MM) (a : Nat) (f : Nat → Int64) : mJ (sAJ m a f) = mJ m := id rfl
theorem j_sAD (m : MM) (a : Nat) (f : Nat → UInt64) : mJ (sAD m a f) = mJ m := id rfl
theorem j_sAR (m : MM) (a : Nat) (f : Nat → Option Nat) : mJ (sAR m a f) = mJ m := id rfl
theorem j_nw (m : MM) (k n a h b : Nat) : mJ (nw m k n a) h b = if b = a then 0 else mJ m h b := id rfl
theorem r_sI (m : MM) (g a : Nat) (v : Int32) : mR (sI m g a v) = mR m := id rfl
theorem r_sJ (m : MM) (g a : Nat) (v : Int64) : mR (sJ m g a v) = mR m := id rfl
theorem r_sR (m : MM) (g a : Nat) (v : Option Nat) (h b : Nat) : mR (sR m g a v) h b = if h = g ∧ b = a then v else mR m h b := id rfl
theorem r_sAI (m : MM) (a : Nat) (f : Nat → Int32) : mR (sAI m a f) = mR m := id rfl
theorem r_sAJ (m : MM) (a : Nat) (f : Nat → Int64) : mR (sAJ m a f) = mR m := id rfl
theorem r_sAD (m : MM) (a : Nat) (f : Nat → UInt64) : mR (sAD m a f) = mR m := id rfl
theorem r_sAR (m : MM) (a : Nat) (f : Nat → Option Nat) : mR (sAR m a f) = mR m := id rfl
theorem r_nw (m : MM) (k n a h b : Nat) : mR (nw m k n a) h b = if b = a then none else mR m h b := id rfl
theorem ai_sI (m : MM) (g a : Nat) (v : Int32) : mAI (sI m g a v) = mAI m := id rfl
theorem ai_sJ (m : MM) (g a : Nat) (v : Int64) : mAI (sJ m g a v) = mAI m := id rfl
theorem ai_sR (m : MM) (g a : Nat) (v : Option Nat) : mAI (sR m g a v) = mAI m := id rfl
theorem ai_sAI (m : MM) (a : Nat) (f : Nat → Int32) (b : Nat) : mAI (sAI m a f) b = if b = a then f else mAI m b := id rfl
theorem ai_sAJ (m : MM) (a : Nat) (f : Nat → Int64) : mAI (sAJ m a f) = mAI m := id rfl
theorem ai_sAD (m : MM) (a : Nat) (f : Nat → UInt64) : mAI (sAD m a f) = mAI m := id rfl
theorem ai_sAR (m : MM) (a : Nat) (f : Nat → Option Nat) : mAI (sAR m a f) = mAI m := id rfl
theorem ai_nw (m : MM) (k n a b : Nat) : mAI (nw m k n a) b = if b = a then (fun _ => 0) else mAI m b := id rfl
theorem aj_sI (m : MM) (g a : Nat) (v : Int32) : mAJ (sI m g a v) = mAJ m := id rfl
theorem aj_sJ (m : MM) (g a : Nat) (v : Int64) : mAJ (sJ m g a v) = mAJ m := id rfl
theorem aj_sR (m : MM) (g a : Nat) (v : Option Nat) : mAJ (sR m g a v) = mAJ m := id rfl
theorem aj_sAI (m : MM) (a : Nat) (f : Nat → Int32) : mAJ (sAI m a f) = mAJ m := id rfl
theorem aj_sAJ (m : MM) (a : Nat) (f : Nat → Int64) (b : Nat) : mAJ (sAJ m a f) b = if b = a then f else mAJ m b := id rfl
theorem aj_sAD (m : MM) (a : Nat) (f : Nat → UInt64) : mAJ (sAD m a f) = mAJ m := id rfl
theorem aj_sAR (m : MM) (a : Nat) (f : Nat → Option Nat) : mAJ (sAR m a f) = mAJ m := id rfl
theorem aj_nw (m : MM) (k n a b : Nat) : mAJ (nw m k n a) b = if b = a then (fun _ => 0) else mAJ m b := id rfl
theorem ad_sI (m : MM) (g a : Nat) (v : Int32) : mAD (sI m g a v) = mAD m := id rfl
theorem ad_sJ (m : MM) (g a : Nat) (v : Int64) : mAD (sJ m g a v) = mAD m := id rfl
theorem ad_sR (m : MM) (g a : Nat) (v : Option Nat) : mAD (sR m g a v) = mAD m := id rfl
theorem ad_sAI (m : MM) (a : Nat) (f : Nat → Int32) : mAD (sAI m a f) = mAD m := id rfl
theorem ad_sAJ (m : MM) (a : Nat) (f : Nat → Int64) : mAD (sAJ m a f) = mAD m := id rfl
theorem ad_sAD (m : MM) (a : Nat) (f : Nat → UInt64) (b : Nat) : mAD (sAD m a f) b = if b = a then f else mAD m b := id rfl
theorem ad_sAR (m : MM) (a : Nat) (f : Nat → Option Nat) : mAD (sAR m a f) = mAD m := id rfl
theorem ad_nw (m : MM) (k n a b : Nat) : mAD (nw m k n a) b = if b = a then (fun _ => 0) else mAD m b := id rfl
theorem ar_sI (m : MM) (g a : Nat) (v : Int32) : mAR (sI m g a v) = mAR m := id rfl
theorem ar_sJ (m : MM) (g a : Nat) (v : Int64) : mAR (sJ m g a v) = mAR m := id rfl
theorem ar_sR (m : MM) (g a : Nat) (v : Option Nat) : mAR (sR m g a v) = mAR m := id rfl
theorem ar_sAI (m : MM) (a : Nat) (f : Nat → Int32) : mAR (sAI m a f) = mAR m := id rfl
theorem ar_sAJ (m : MM) (a : Nat) (f : Nat → Int64) : mAR (sAJ m a f) = mAR m := id rfl
theorem ar_sAD (m : MM) (a : Nat) (f : Nat → UInt64) : mAR (sAD m a f) = mAR m := id rfl
theorem ar_sAR (m : MM) (a : Nat) (f : Nat → Option Nat) (b : Nat) : mAR (sAR m a f) b = if b = a then f else mAR m b := id rfl
theorem ar_nw (m : MM) (k n a b : Nat) : mAR (nw m k n a) b = if b = a then (fun _ => none) else mAR m b := id rfl
/-- the spent cells and slots, named -/
theorem W_cs {p l e L s m args below meth c H locs c1 s1 c2 s2 Q g} (hc : c2 = c1) (hs : s2 = s1) (h : W p l e L s m args below meth c H locs c2 s2 Q g) : W p l e L s m args below meth c H locs c1 s1 Q g := by
  rw [← hc, ← hs]
  exact h
