/-! THE ABSTRACT HEAP: what each field of each object, and each row, holds, by its address.
    MM: addresses, kinds (0 none; object of class ci: ci + 1; rows 11 int, 12 long, 13 double, 14 Rollup, 15 Series), lengths, fields by number (20 * ci + slot) and address, rows by address and place. -/
abbrev MM : Type := List Nat × (Nat → Nat) × (Nat → Nat) × (Nat → Nat → Int32) × (Nat → Nat → Int64) × (Nat → Nat → Option Nat) × (Nat → Nat → Int32) × (Nat → Nat → Int64) × (Nat → Nat → UInt64) × (Nat → Nat → Option Nat)
def mL (m : MM) : List Nat := m.1
def mK (m : MM) : Nat → Nat := m.2.1
def mN (m : MM) : Nat → Nat := m.2.2.1
def mI (m : MM) : Nat → Nat → Int32 := m.2.2.2.1
def mJ (m : MM) : Nat → Nat → Int64 := m.2.2.2.2.1
def mR (m : MM) : Nat → Nat → Option Nat := m.2.2.2.2.2.1
def mAI (m : MM) : Nat → Nat → Int32 := m.2.2.2.2.2.2.1
def mAJ (m : MM) : Nat → Nat → Int64 := m.2.2.2.2.2.2.2.1
def mAD (m : MM) : Nat → Nat → UInt64 := m.2.2.2.2.2.2.2.2.1
def mAR (m : MM) : Nat → Nat → Option Nat := m.2.2.2.2.2.2.2.2.2
def up2 {α : Type} (f : Nat → Nat → α) (g a : Nat) (v : α) : Nat → Nat → α := fun h b => if h = g ∧ b = a then v else f h b
def sI (m : MM) (g a : Nat) (v : Int32) : MM := (m.1, m.2.1, m.2.2.1, up2 (mI m) g a v, m.2.2.2.2)
def sJ (m : MM) (g a : Nat) (v : Int64) : MM := (m.1, m.2.1, m.2.2.1, m.2.2.2.1, up2 (mJ m) g a v, m.2.2.2.2.2)
def sR (m : MM) (g a : Nat) (v : Option Nat) : MM := (m.1, m.2.1, m.2.2.1, m.2.2.2.1, m.2.2.2.2.1, up2 (mR m) g a v, m.2.2.2.2.2.2)
def sAI (m : MM) (a : Nat) (f : Nat → Int32) : MM := (m.1, m.2.1, m.2.2.1, m.2.2.2.1, m.2.2.2.2.1, m.2.2.2.2.2.1, va_up (mAI m) a f, m.2.2.2.2.2.2.2)
def sAJ (m : MM) (a : Nat) (f : Nat → Int64) : MM := (m.1, m.2.1, m.2.2.1, m.2.2.2.1, m.2.2.2.2.1, m.2.2.2.2.2.1, m.2.2.2.2.2.2.1, va_up (mAJ m) a f, m.2.2.2.2.2.2.2.2)
def sAD (m : MM) (a : Nat) (f : Nat → UInt64) : MM := (m.1, m.2.1, m.2.2.1, m.2.2.2.1, m.2.2.2.2.1, m.2.2.2.2.2.1, m.2.2.2.2.2.2.1, m.2.2.2.2.2.2.2.1, va_up (mAD m) a f, m.2.2.2.2.2.2.2.2.2)
def sAR (m : MM) (a : Nat) (f : Nat → Option Nat) : MM := (m.1, m.2.1, m.2.2.1, m.2.2.2.1, m.2.2.2.2.1, m.2.2.2.2.2.1, m.2.2.2.2.2.2.1, m.2.2.2.2.2.2.2.1, m.2.2.2.2.2.2.2.2.1, va_up (mAR m) a f)
/-- a new cell of kind k, of n places where it is a row: all at its default -/
def nw (m : MM) (k n a : Nat) : MM := (m.1 ++ [a], va_up m.2.1 a k, va_up m.2.2.1 a n, (fun g b => if b = a then 0 else mI m g b), (fun g b => if b = a then 0 else mJ m g b), (fun g b => if b = a then none else mR m g b), va_up (mAI m) a (fun _ => 0), va_up (mAJ m) a (fun _ => 0), va_up (mAD m) a (fun _ => 0), va_up (mAR m) a (fun _ => none))
/-- the fields' types by class and slot: 0 int, 1 long, 2 reference -/
def xt : List (List Nat) := [[2, 2, 0], [0, 0, 1, 0, 0, 0, 0, 1], [0, 2, 0], [0, 2, 2, 2, 2], [0, 0, 0, 0, 0, 0], [2, 0, 0, 2, 2, 2, 2]]
def xty (ci k : Nat) : Nat := (xt.getD ci []).getD k 0
def xf (m : MM) (ci a k : Nat) : Value := match xty ci k with
  | 0 => .int (mI m (20 * ci + k) a)
  | 1 => .long (mJ m (20 * ci + k) a)
  | _ => va_rf (mR m (20 * ci + k) a)
def xF (m : MM) (ci a : Nat) : List Value := (List.range (xt.getD ci []).length).map (xf m ci a)
abbrev GG : Type := va_G × ClassId × ClassId × ClassId × ClassId × ClassId
def ent (G : GG) (m : MM) (a : Nat) : va_E :=
  if mK m a = 11 then .inl (G.2.1, mN m a, .inl (mAI m a))
  else if mK m a = 12 then .inl (G.2.2.1, mN m a, .inr (.inl (mAJ m a)))
  else if mK m a = 13 then .inl (G.2.2.2.1, mN m a, .inr (.inr (.inr (.inl (mAD m a)))))
  else if mK m a = 14 then .inl (G.2.2.2.2.1, mN m a, .inr (.inr (.inr (.inr (mAR m a)))))
  else if mK m a = 15 then .inl (G.2.2.2.2.2, mN m a, .inr (.inr (.inr (.inr (mAR m a)))))
  else .inr (mK m a - 1, xF m (mK m a - 1) a)
abbrev xtys (G : GG) : List (ClassId × FieldType) := [(G.2.1, .int), (G.2.2.1, .int), (G.2.2.2.1, .int), (G.2.2.2.2.1, .object "RollupStore$Rollup"), (G.2.2.2.2.2, .object "RollupStore$Series")]
/-- the heap H holds the abstract heap m, at addresses in A -/
def hp (G : GG) (A : Nat → Prop) (m : MM) (H : Heap) : Prop := va_P G.1 vwCl (va_pl (mL m) (ent G m)) H ∧ va_D A (va_pl (mL m) (ent G m)) ∧ ∀ a, mK m a ≠ 0 → a ∈ mL m
abbrev xA (base : Nat) : Nat → Prop := fun q => base ≤ q
theorem ent_O {G : GG} {m : MM} {a ci : Nat} (h : mK m a = ci + 1) (hc : ci < 10) : ent G m a = .inr (ci, xF m ci a) := by
  unfold ent
  rw [h, if_neg (by omega), if_neg (by omega), if_neg (by omega), if_neg (by omega), if_neg (by omega)]
  rfl
theorem ent_11 {G : GG} {m : MM} {a : Nat} (h : mK m a = 11) : ent G m a = .inl (G.2.1, mN m a, .inl (mAI m a)) := by unfold ent; rw [if_pos h]
theorem ent_12 {G : GG} {m : MM} {a : Nat} (h : mK m a = 12) : ent G m a = .inl (G.2.2.1, mN m a, .inr (.inl (mAJ m a))) := by unfold ent; rw [h]; rfl
theorem ent_13 {G : GG} {m : MM} {a : Nat} (h : mK m a = 13) : ent G m a = .inl (G.2.2.2.1, mN m a, .inr (.inr (.inr (.inl (mAD m a))))) := by unfold ent; rw [h]; rfl
theorem ent_14 {G : GG} {m : MM} {a : Nat} (h : mK m a = 14) : ent G m a = .inl (G.2.2.2.2.1, mN m a, .inr (.inr (.inr (.inr (mAR m a))))) := by unfold ent; rw [h]; rfl
theorem ent_15 {G : GG} {m : MM} {a : Nat} (h : mK m a = 15) : ent G m a = .inl (G.2.2.2.2.2, mN m a, .inr (.inr (.inr (.inr (mAR m a))))) := by unfold ent; rw [h]; rfl
theorem hp.get {G : GG} {A : Nat → Prop} {m : MM} {H : Heap} (h : hp G A m H) {a : Nat} (hk : mK m a ≠ 0) : a ∈ mL m ∧ ∃ k : Nat, (va_pl (mL m) (ent G m))[k]? = some (a, ent G m a) := ⟨h.2.2 a hk, va_pl_get (X := []) (h.2.2 a hk)⟩
theorem hp.same {G : GG} {A : Nat → Prop} {m m' : MM} {H : Heap} (hL : mL m' = mL m) (hK : ∀ a, mK m' a ≠ 0 → mK m a ≠ 0) {f : Nat → va_E} (hf : ∀ a, f a = ent G m' a) (h1 : va_P G.1 vwCl (va_pl (mL m) f) H) (h2 : va_D A (va_pl (mL m) f)) (h3 : ∀ a, mK m a ≠ 0 → a ∈ mL m) : hp G A m' H := by
  have e : f = ent G m' := funext hf
  subst e
  unfold hp
  rw [hL]
  exact ⟨h1, h2, fun a h => h3 a (hK a h)⟩
/-- one cell has changed -/
theorem hp.set {G : GG} {A : Nat → Prop} {m m' : MM} {H H1 : Heap} {a k : Nat} {e : va_E} (h : hp G A m H) (hL : mL m' = mL m) (hK : mK m' = mK m) (ha : mK m a ≠ 0) (hk : (va_pl (mL m) (ent G m))[k]? = some (a, ent G m a)) (h1 : va_P G.1 vwCl ((va_pl (mL m) (ent G m)).set k (a, e)) H1) (h2 : va_D A ((va_pl (mL m) (ent G m)).set k (a, e))) (hx : e = ent G m' a) (ho : ∀ b, b ≠ a → ent G m b = ent G m' b) : hp G A m' H1 := by
  have he := va_pl_set (X := []) (e := e) h.2.1 (h.2.2 a ha) hk
  rw [List.nil_append, List.nil_append] at he
  rw [he] at h1 h2
  refine hp.same (m := m) hL (fun b hb => by rw [← hK]; exact hb) (fun b => ?_) h1 h2 h.2.2
  by_cases hb : b = a
  · subst hb; rw [va_up_self]; exact hx
  · rw [va_up_ne _ _ hb]; exact ho b hb
/-- one cell is new -/
theorem hp.push {G : GG} {A : Nat → Prop} {m : MM} {H H1 : Heap} {a k n : Nat} {e : va_E} (h : hp G A m H) (h1 : va_P G.1 vwCl (va_pl (mL m) (ent G m) ++ [(a, e)]) H1) (h2 : va_D A (va_pl (mL m) (ent G m) ++ [(a, e)])) (hx : e = ent G (nw m k n a) a) : mK m a = 0 ∧ A a ∧ hp G A (nw m k n a) H1 := by
  have hl : (va_pl (mL m) (ent G m) ++ [(a, e)])[(va_pl (mL m) (ent G m)).length]? = some (a, e) := by rw [List.getElem?_append_right (Nat.le_refl _), Nat.sub_self]; rfl
  have hn : a ∉ mL m := fun hm => by
    obtain ⟨j, hj⟩ := List.getElem?_of_mem (show (a, ent G m a) ∈ va_pl (mL m) (ent G m) from List.mem_map.mpr ⟨a, hm, rfl⟩)
    have hjl := (List.getElem?_eq_some_iff.mp hj).1
    have h9 := h2.1 j _ (a, ent G m a) (a, e) (by rw [List.getElem?_append_left hjl]; exact hj) hl rfl
    omega
  have h0 : mK m a = 0 := Classical.byContradiction fun z => hn (h.2.2 a z)
  refine ⟨h0, h2.2 _ _ hl, ?_⟩
  rw [va_pl_push hn] at h1 h2
  have hf : ∀ b, va_up (ent G m) a e b = ent G (nw m k n a) b := fun b => by
    by_cases hb : b = a
    · subst hb; rw [va_up_self]; exact hx
    · rw [va_up_ne _ _ hb]
      have xk : ∀ ci k9, xf (nw m k n a) ci b k9 = xf m ci b k9 := fun ci k9 => by
        unfold xf
        rw [show mI (nw m k n a) (20 * ci + k9) b = mI m (20 * ci + k9) b from if_neg hb, show mJ (nw m k n a) (20 * ci + k9) b = mJ m (20 * ci + k9) b from if_neg hb, show mR (nw m k n a) (20 * ci + k9) b = mR m (20 * ci + k9) b from if_neg hb]
      have xK : ∀ ci, xF (nw m k n a) ci b = xF m ci b := fun ci => by
        unfold xF
        rw [show xf (nw m k n a) ci b = xf m ci b from funext (xk ci)]
      unfold ent
      rw [show mK (nw m k n a) b = mK m b from va_up_ne _ _ hb, show mN (nw m k n a) b = mN m b from va_up_ne _ _ hb, show mAI (nw m k n a) b = mAI m b from va_up_ne _ _ hb, show mAJ (nw m k n a) b = mAJ m b from va_up_ne _ _ hb, show mAD (nw m k n a) b = mAD m b from va_up_ne _ _ hb, show mAR (nw m k n a) b = mAR m b from va_up_ne _ _ hb, xK]
  refine ⟨?_, ?_, fun b hb => ?_⟩
  · rw [← show va_up (ent G m) a e = ent G (nw m k n a) from funext hf]; exact h1
  · rw [← show va_up (ent G m) a e = ent G (nw m k n a) from funext hf]; exact h2
  · show b ∈ mL m ++ [a]
    by_cases hb9 : b = a
    · rw [hb9]; exact List.mem_append_right _ List.mem_cons_self
    · exact List.mem_append_left _ (h.2.2 b (by rw [← show mK (nw m k n a) b = mK m b from va_up_ne _ _ hb9]; exact hb))
theorem xF_len (m : MM) (ci a : Nat) : (xF m ci a).length = (xt.getD ci []).length := by unfold xF; rw [List.length_map, List.length_range]
theorem xF_get {m : MM} {ci a j : Nat} (h : j < (xt.getD ci []).length) : (xF m ci a)[j]? = some (xf m ci a j) := by
  unfold xF
  rw [List.getElem?_map, List.getElem?_range h]; rfl
theorem xF_set {m m' : MM} {ci a k : Nat} {v : Value} (hk : xf m' ci a k = v) (ho : ∀ j, j < (xt.getD ci []).length → j ≠ k → xf m ci a j = xf m' ci a j) : (xF m ci a).set k v = xF m' ci a := by
  apply List.ext_getElem?
  intro j
  by_cases hj : j < (xt.getD ci []).length
  · rw [xF_get hj]
    by_cases e : j = k
    · subst e
      rw [List.getElem?_set_self (by rw [xF_len]; exact hj), hk]
    · rw [List.getElem?_set_ne (Ne.symm e), xF_get hj, ho j hj e]
  · rw [List.getElem?_eq_none (by rw [List.length_set, xF_len]; omega), List.getElem?_eq_none (by rw [xF_len]; omega)]

theorem ent_congr {G : GG} {m m' : MM} {b : Nat} (h1 : mK m b = mK m' b) (h2 : mN m b = mN m' b) (h3 : ∀ g, mI m g b = mI m' g b) (h4 : ∀ g, mJ m g b = mJ m' g b) (h5 : ∀ g, mR m g b = mR m' g b) (h6 : mAI m b = mAI m' b) (h7 : mAJ m b = mAJ m' b) (h8 : mAD m b = mAD m' b) (h9 : mAR m b = mAR m' b) : ent G m b = ent G m' b := by
  have xk : ∀ ci k9, xf m ci b k9 = xf m' ci b k9 := fun ci k9 => by unfold xf; rw [h3, h4, h5]
  have xK : ∀ ci, xF m ci b = xF m' ci b := fun ci => by unfold xF; rw [show xf m ci b = xf m' ci b from funext (xk ci)]
  unfold ent
  rw [h1, h2, h6, h7, h8, h9, xK]
theorem up2_self {α : Type} (f : Nat → Nat → α) (g a : Nat) (v : α) : up2 f g a v g a = v := if_pos ⟨rfl, rfl⟩
theorem up2_ne {α : Type} (f : Nat → Nat → α) {g a h b : Nat} (v : α) (n : ¬ (h = g ∧ b = a)) : up2 f g a v h b = f h b := if_neg n

section ROWS
variable {p : Program} {l : Launch} {e : Env} {R : Room} {s : State} {m : MethodId} {args : Array Value} {below : List Frame} {meth : Method} {c : Code} {H : Heap} {locs : List Loc} {cells slots : Nat} {Q : State → Prop} {cc : ByteArray} {pc : Nat} {ls : Array Slot} {rest : List Value} {G : GG} {base : Nat} {mm : MM} {a : Nat}

theorem xr_getI (hx : p.tables.exec = Jvm.exec) (hb : c.code = cc) {own ref C : String} {T : u_T} {N ci index : Nat} (hL : ∀ w ∈ u_ws C T N, w.before args s = true) (hown : s.vm.findClass own = some m.cls) (hK : va_K G.1 vwCl (xtys G) s) (hh : hp G (xA base) mm H) (hk : mK mm a = ci + 1) (hci : ci < 10) (hc : vwCl[ci]? = some (C, T, N)) (k g : Nat) (hg : 20 * ci + k = g) (hty : xty ci k = 0) (hlen : k < (xt.getD ci []).length) (hkN : k < N) (hlink : (Cond.fieldLink own index ref (T k).2.1 (T k).2.2.1).before args s = true) (hsame : ∀ x, s.fieldFound? (T k).1 (T k).2.1 (T k).2.2.1 = some x → s.fieldFound? ref (T k).2.1 (T k).2.2.1 = some x) (hdg : decode cc pc = .ok (.getfield index, 3)) (kk : W p l e R s m args below meth c H locs cells slots Q (F0 m (pc + 3) ls (.int (mI mm g a) :: rest))) : W p l e R s m args below meth c H locs cells slots Q (F0 m pc ls (.ref a :: rest)) := by
  obtain ⟨j, hj⟩ := (hh.get (by rw [hk]; omega)).2
  refine va_get hx hb hL (fun _ h => h) hown hK hh.1 j (hj.trans (by rw [ent_O hk hci])) hc k hkN hlink hsame ((xF_get hlen).trans ?_) hdg kk
  unfold xf
  rw [hty, hg]
  rfl

theorem xr_getJ (hx : p.tables.exec = Jvm.exec) (hb : c.code = cc) {own ref C : String} {T : u_T} {N ci index : Nat} (hL : ∀ w ∈ u_ws C T N, w.before args s = true) (hown : s.vm.findClass own = some m.cls) (hK : va_K G.1 vwCl (xtys G) s) (hh : hp G (xA base) mm H) (hk : mK mm a = ci + 1) (hci : ci < 10) (hc : vwCl[ci]? = some (C, T, N)) (k g : Nat) (hg : 20 * ci + k = g) (hty : xty ci k = 1) (hlen : k < (xt.getD ci []).length) (hkN : k < N) (hlink : (Cond.fieldLink own index ref (T k).2.1 (T k).2.2.1).before args s = true) (hsame : ∀ x, s.fieldFound? (T k).1 (T k).2.1 (T k).2.2.1 = some x → s.fieldFound? ref (T k).2.1 (T k).2.2.1 = some x) (hdg : decode cc pc = .ok (.getfield index, 3)) (kk : W p l e R s m args below meth c H locs cells slots Q (F0 m (pc + 3) ls (.long (mJ mm g a) :: rest))) : W p l e R s m args below meth c H locs cells slots Q (F0 m pc ls (.ref a :: rest)) := by
  obtain ⟨j, hj⟩ := (hh.get (by rw [hk]; omega)).2
  refine va_get hx hb hL (fun _ h => h) hown hK hh.1 j (hj.trans (by rw [ent_O hk hci])) hc k hkN hlink hsame ((xF_get hlen).trans ?_) hdg kk
  unfold xf
  rw [hty, hg]
  rfl

theorem xr_getR (hx : p.tables.exec = Jvm.exec) (hb : c.code = cc) {own ref C : String} {T : u_T} {N ci index : Nat} (hL : ∀ w ∈ u_ws C T N, w.before args s = true) (hown : s.vm.findClass own = some m.cls) (hK : va_K G.1 vwCl (xtys G) s) (hh : hp G (xA base) mm H) (hk : mK mm a = ci + 1) (hci : ci < 10) (hc : vwCl[ci]? = some (C, T, N)) (k g : Nat) (hg : 20 * ci + k = g) (hty : xty ci k = 2) (hlen : k < (xt.getD ci []).length) (hkN : k < N) (hlink : (Cond.fieldLink own index ref (T k).2.1 (T k).2.2.1).before args s = true) (hsame : ∀ x, s.fieldFound? (T k).1 (T k).2.1 (T k).2.2.1 = some x → s.fieldFound? ref (T k).2.1 (T k).2.2.1 = some x) {b : Nat} (hr : mR mm g a = some b) (hdg : decode cc pc = .ok (.getfield index, 3)) (kk : W p l e R s m args below meth c H locs cells slots Q (F0 m (pc + 3) ls (.ref b :: rest))) : W p l e R s m args below meth c H locs cells slots Q (F0 m pc ls (.ref a :: rest)) := by
  obtain ⟨j, hj⟩ := (hh.get (by rw [hk]; omega)).2
  refine va_get hx hb hL (fun _ h => h) hown hK hh.1 j (hj.trans (by rw [ent_O hk hci])) hc k hkN hlink hsame ((xF_get hlen).trans ?_) hdg kk
  unfold xf
  rw [hty, hg]
  show some (va_rf (mR mm g a)) = _
  rw [hr]; rfl

theorem xr_putI (hx : p.tables.exec = Jvm.exec) (hb : c.code = cc) {own ref C : String} {T : u_T} {N ci index : Nat} (hL : ∀ w ∈ u_ws C T N, w.before args s = true) (hown : s.vm.findClass own = some m.cls) (hK : va_K G.1 vwCl (xtys G) s) (hh : hp G (xA base) mm H) (hk : mK mm a = ci + 1) (hci : ci < 10) (hc : vwCl[ci]? = some (C, T, N)) (k g : Nat) (hg : 20 * ci + k = g) (hty : xty ci k = 0) (hlen : k < (xt.getD ci []).length) (hkN : k < N) (hlink : (Cond.fieldLink own index ref (T k).2.1 (T k).2.2.1).before args s = true) (hsame : ∀ x, s.fieldFound? (T k).1 (T k).2.1 (T k).2.2.1 = some x → s.fieldFound? ref (T k).2.1 (T k).2.2.1 = some x) (ty0 : Nat → FieldType) (hty0 : ∀ k, k < N → parseFieldDescriptor (T k).2.2.1 = some (ty0 k)) (hnm : ∀ a, a < N → ∀ b, b < N → a ≠ b → (T a).2.1 ≠ (T b).2.1) (hfin : (T k).2.2.2 = false) {v : Int32} (hn : narrow (ty0 k) (.int v) = .int v) (hfit : fits (ty0 k) (.int v) = true) (hS : va_S (xA base) s.heap H locs) (hdg : decode cc pc = .ok (.putfield index, 3)) (kk : ∀ (H1 : Heap) (locs1 : List Loc), hp G (xA base) (sI mm g a v) H1 → va_S (xA base) s.heap H1 locs1 → W p l e R s m args below meth c H1 locs1 cells slots Q (F0 m (pc + 3) ls rest)) : W p l e R s m args below meth c H locs cells slots Q (F0 m pc ls (.int v :: .ref a :: rest)) := by
  have hk0 : mK mm a ≠ 0 := by rw [hk]; omega
  obtain ⟨j, hj⟩ := (hh.get hk0).2
  have hj2 := hj.trans (congrArg (fun e => some (a, e)) (ent_O (G := G) hk hci))
  refine va_put hx hb hL (fun _ h => h) ty0 hty0 hnm hown hK hh.1 hh.2.1 hS j hj2 hc k hkN hlink hsame hfin (hty0 k hkN) hn hfit (by rw [xF_len]; exact hlen) hdg (fun H1 locs1 h1 h2 h3 => kk H1 locs1 (hp.set hh (m' := sI mm g a v) rfl rfl hk0 hj h1 h2 ?_ (fun b hb9 => ?_)) h3)
  · rw [ent_O (m := sI mm g a v) hk hci, xF_set (m' := sI mm g a v)]
    · unfold xf
      rw [hty, hg]
      show Value.int (up2 (mI mm) g a v g a) = _
      rw [up2_self]
    · intro j9 _ hne
      unfold xf
      have hng : ¬ (20 * ci + j9 = g ∧ a = a) := fun z => by omega
      rw [show mI (sI mm g a v) (20 * ci + j9) a = mI mm (20 * ci + j9) a from up2_ne _ _ hng]; rfl
  · refine ent_congr rfl rfl (fun g9 => ?_) (fun g9 => ?_) (fun g9 => ?_) rfl rfl rfl rfl
    · exact (up2_ne _ _ (fun z => hb9 z.2)).symm
    · rfl
    · rfl

theorem xr_putIF (hx : p.tables.exec = Jvm.exec) (hb : c.code = cc) {own ref C : String} {T : u_T} {N ci index : Nat} (hL : ∀ w ∈ u_ws C T N, w.before args s = true) (hown : s.vm.findClass own = some m.cls) (hK : va_K G.1 vwCl (xtys G) s) (hh : hp G (xA base) mm H) (hk : mK mm a = ci + 1) (hci : ci < 10) (hc : vwCl[ci]? = some (C, T, N)) (k g : Nat) (hg : 20 * ci + k = g) (hty : xty ci k = 0) (hlen : k < (xt.getD ci []).length) (hkN : k < N) (hlink : (Cond.fieldLink own index ref (T k).2.1 (T k).2.2.1).before args s = true) (hsame : ∀ x, s.fieldFound? (T k).1 (T k).2.1 (T k).2.2.1 = some x → s.fieldFound? ref (T k).2.1 (T k).2.2.1 = some x) (ty0 : Nat → FieldType) (hty0 : ∀ k, k < N → parseFieldDescriptor (T k).2.2.1 = some (ty0 k)) (hnm : ∀ a, a < N → ∀ b, b < N → a ≠ b → (T a).2.1 ≠ (T b).2.1) (hfin : (T k).2.2.2 = true) (hin2 : meth.name = "<init>") (hdecl : (T k).1 = own) {v : Int32} (hn : narrow (ty0 k) (.int v) = .int v) (hfit : fits (ty0 k) (.int v) = true) (hS : va_S (xA base) s.heap H locs) (hdg : decode cc pc = .ok (.putfield index, 3)) (kk : ∀ (H1 : Heap) (locs1 : List Loc), hp G (xA base) (sI mm g a v) H1 → va_S (xA base) s.heap H1 locs1 → W p l e R s m args below meth c H1 locs1 cells slots Q (F0 m (pc + 3) ls rest)) : W p l e R s m args below meth c H locs cells slots Q (F0 m pc ls (.int v :: .ref a :: rest)) := by
  have hk0 : mK mm a ≠ 0 := by rw [hk]; omega
  obtain ⟨j, hj⟩ := (hh.get hk0).2
  have hj2 := hj.trans (congrArg (fun e => some (a, e)) (ent_O (G := G) hk hci))
  refine va_putF hx hb hL (fun _ h => h) ty0 hty0 hnm hown hK hh.1 hh.2.1 hS j hj2 hc k hkN hlink hsame hfin hin2 hdecl (hty0 k hkN) hn hfit (by rw [xF_len]; exact hlen) hdg (fun H1 locs1 h1 h2 h3 => kk H1 locs1 (hp.set hh (m' := sI mm g a v) rfl rfl hk0 hj h1 h2 ?_ (fun b hb9 => ?_)) h3)
  · rw [ent_O (m := sI mm g a v) hk hci, xF_set (m' := sI mm g a v)]
    · unfold xf
      rw [hty, hg]
      show Value.int (up2 (mI mm) g a v g a) = _
      rw [up2_self]
    · intro j9 _ hne
      unfold xf
      have hng : ¬ (20 * ci + j9 = g ∧ a = a) := fun z => by omega
      rw [show mI (sI mm g a v) (20 * ci + j9) a = mI mm (20 * ci + j9) a from up2_ne _ _ hng]; rfl
  · refine ent_congr rfl rfl (fun g9 => ?_) (fun g9 => ?_) (fun g9 => ?_) rfl rfl rfl rfl
    · exact (up2_ne _ _ (fun z => hb9 z.2)).symm
    · rfl
    · rfl

theorem xr_putJ (hx : p.tables.exec = Jvm.exec) (hb : c.code = cc) {own ref C : String} {T : u_T} {N ci index : Nat} (hL : ∀ w ∈ u_ws C T N, w.before args s = true) (hown : s.vm.findClass own = some m.cls) (hK : va_K G.1 vwCl (xtys G) s) (hh : hp G (xA base) mm H) (hk : mK mm a = ci + 1) (hci : ci < 10) (hc : vwCl[ci]? = some (C, T, N)) (k g : Nat) (hg : 20 * ci + k = g) (hty : xty ci k = 1) (hlen : k < (xt.getD ci []).length) (hkN : k < N) (hlink : (Cond.fieldLink own index ref (T k).2.1 (T k).2.2.1).before args s = true) (hsame : ∀ x, s.fieldFound? (T k).1 (T k).2.1 (T k).2.2.1 = some x → s.fieldFound? ref (T k).2.1 (T k).2.2.1 = some x) (ty0 : Nat → FieldType) (hty0 : ∀ k, k < N → parseFieldDescriptor (T k).2.2.1 = some (ty0 k)) (hnm : ∀ a, a < N → ∀ b, b < N → a ≠ b → (T a).2.1 ≠ (T b).2.1) (hfin : (T k).2.2.2 = false) {v : Int64} (hn : narrow (ty0 k) (.long v) = .long v) (hfit : fits (ty0 k) (.long v) = true) (hS : va_S (xA base) s.heap H locs) (hdg : decode cc pc = .ok (.putfield index, 3)) (kk : ∀ (H1 : Heap) (locs1 : List Loc), hp G (xA base) (sJ mm g a v) H1 → va_S (xA base) s.heap H1 locs1 → W p l e R s m args below meth c H1 locs1 cells slots Q (F0 m (pc + 3) ls rest)) : W p l e R s m args below meth c H locs cells slots Q (F0 m pc ls (.long v :: .ref a :: rest)) := by
  have hk0 : mK mm a ≠ 0 := by rw [hk]; omega
  obtain ⟨j, hj⟩ := (hh.get hk0).2
  have hj2 := hj.trans (congrArg (fun e => some (a, e)) (ent_O (G := G) hk hci))
  refine va_put hx hb hL (fun _ h => h) ty0 hty0 hnm hown hK hh.1 hh.2.1 hS j hj2 hc k hkN hlink hsame hfin (hty0 k hkN) hn hfit (by rw [xF_len]; exact hlen) hdg (fun H1 locs1 h1 h2 h3 => kk H1 locs1 (hp.set hh (m' := sJ mm g a v) rfl rfl hk0 hj h1 h2 ?_ (fun b hb9 => ?_)) h3)
  · rw [ent_O (m := sJ mm g a v) hk hci, xF_set (m' := sJ mm g a v)]
    · unfold xf
      rw [hty, hg]
      show Value.long (up2 (mJ mm) g a v g a) = _
      rw [up2_self]
    · intro j9 _ hne
      unfold xf
      have hng : ¬ (20 * ci + j9 = g ∧ a = a) := fun z => by omega
      rw [show mJ (sJ mm g a v) (20 * ci + j9) a = mJ mm (20 * ci + j9) a from up2_ne _ _ hng]; rfl
  · refine ent_congr rfl rfl (fun g9 => ?_) (fun g9 => ?_) (fun g9 => ?_) rfl rfl rfl rfl
    · rfl
    · exact (up2_ne _ _ (fun z => hb9 z.2)).symm
    · rfl

theorem xr_putJF (hx : p.tables.exec = Jvm.exec) (hb : c.code = cc) {own ref C : String} {T : u_T} {N ci index : Nat} (hL : ∀ w ∈ u_ws C T N, w.before args s = true) (hown : s.vm.findClass own = some m.cls) (hK : va_K G.1 vwCl (xtys G) s) (hh : hp G (xA base) mm H) (hk : mK mm a = ci + 1) (hci : ci < 10) (hc : vwCl[ci]? = some (C, T, N)) (k g : Nat) (hg : 20 * ci + k = g) (hty : xty ci k = 1) (hlen : k < (xt.getD ci []).length) (hkN : k < N) (hlink : (Cond.fieldLink own index ref (T k).2.1 (T k).2.2.1).before args s = true) (hsame : ∀ x, s.fieldFound? (T k).1 (T k).2.1 (T k).2.2.1 = some x → s.fieldFound? ref (T k).2.1 (T k).2.2.1 = some x) (ty0 : Nat → FieldType) (hty0 : ∀ k, k < N → parseFieldDescriptor (T k).2.2.1 = some (ty0 k)) (hnm : ∀ a, a < N → ∀ b, b < N → a ≠ b → (T a).2.1 ≠ (T b).2.1) (hfin : (T k).2.2.2 = true) (hin2 : meth.name = "<init>") (hdecl : (T k).1 = own) {v : Int64} (hn : narrow (ty0 k) (.long v) = .long v) (hfit : fits (ty0 k) (.long v) = true) (hS : va_S (xA base) s.heap H locs) (hdg : decode cc pc = .ok (.putfield index, 3)) (kk : ∀ (H1 : Heap) (locs1 : List Loc), hp G (xA base) (sJ mm g a v) H1 → va_S (xA base) s.heap H1 locs1 → W p l e R s m args below meth c H1 locs1 cells slots Q (F0 m (pc + 3) ls rest)) : W p l e R s m args below meth c H locs cells slots Q (F0 m pc ls (.long v :: .ref a :: rest)) := by
  have hk0 : mK mm a ≠ 0 := by rw [hk]; omega
  obtain ⟨j, hj⟩ := (hh.get hk0).2
  have hj2 := hj.trans (congrArg (fun e => some (a, e)) (ent_O (G := G) hk hci))
  refine va_putF hx hb hL (fun _ h => h) ty0 hty0 hnm hown hK hh.1 hh.2.1 hS j hj2 hc k hkN hlink hsame hfin hin2 hdecl (hty0 k hkN) hn hfit (by rw [xF_len]; exact hlen) hdg (fun H1 locs1 h1 h2 h3 => kk H1 locs1 (hp.set hh (m' := sJ mm g a v) rfl rfl hk0 hj h1 h2 ?_ (fun b hb9 => ?_)) h3)
  · rw [ent_O (m := sJ mm g a v) hk hci, xF_set (m' := sJ mm g a v)]
    · unfold xf
      rw [hty, hg]
      show Value.long (up2 (mJ mm) g a v g a) = _
      rw [up2_self]
    · intro j9 _ hne
      unfold xf
      have hng : ¬ (20 * ci + j9 = g ∧ a = a) := fun z => by omega
      rw [show mJ (sJ mm g a v) (20 * ci + j9) a = mJ mm (20 * ci + j9) a from up2_ne _ _ hng]; rfl
  · refine ent_congr rfl rfl (fun g9 => ?_) (fun g9 => ?_) (fun g9 => ?_) rfl rfl rfl rfl
    · rfl
    · exact (up2_ne _ _ (fun z => hb9 z.2)).symm
    · rfl

theorem xr_putR (hx : p.tables.exec = Jvm.exec) (hb : c.code = cc) {own ref C : String} {T : u_T} {N ci index : Nat} (hL : ∀ w ∈ u_ws C T N, w.before args s = true) (hown : s.vm.findClass own = some m.cls) (hK : va_K G.1 vwCl (xtys G) s) (hh : hp G (xA base) mm H) (hk : mK mm a = ci + 1) (hci : ci < 10) (hc : vwCl[ci]? = some (C, T, N)) (k g : Nat) (hg : 20 * ci + k = g) (hty : xty ci k = 2) (hlen : k < (xt.getD ci []).length) (hkN : k < N) (hlink : (Cond.fieldLink own index ref (T k).2.1 (T k).2.2.1).before args s = true) (hsame : ∀ x, s.fieldFound? (T k).1 (T k).2.1 (T k).2.2.1 = some x → s.fieldFound? ref (T k).2.1 (T k).2.2.1 = some x) (ty0 : Nat → FieldType) (hty0 : ∀ k, k < N → parseFieldDescriptor (T k).2.2.1 = some (ty0 k)) (hnm : ∀ a, a < N → ∀ b, b < N → a ≠ b → (T a).2.1 ≠ (T b).2.1) (hfin : (T k).2.2.2 = false) {v : Nat} (hn : narrow (ty0 k) (.ref v) = .ref v) (hfit : fits (ty0 k) (.ref v) = true) (hS : va_S (xA base) s.heap H locs) (hdg : decode cc pc = .ok (.putfield index, 3)) (kk : ∀ (H1 : Heap) (locs1 : List Loc), hp G (xA base) (sR mm g a (some v)) H1 → va_S (xA base) s.heap H1 locs1 → W p l e R s m args below meth c H1 locs1 cells slots Q (F0 m (pc + 3) ls rest)) : W p l e R s m args below meth c H locs cells slots Q (F0 m pc ls (.ref v :: .ref a :: rest)) := by
  have hk0 : mK mm a ≠ 0 := by rw [hk]; omega
  obtain ⟨j, hj⟩ := (hh.get hk0).2
  have hj2 := hj.trans (congrArg (fun e => some (a, e)) (ent_O (G := G) hk hci))
  refine va_put hx hb hL (fun _ h => h) ty0 hty0 hnm hown hK hh.1 hh.2.1 hS j hj2 hc k hkN hlink hsame hfin (hty0 k hkN) hn hfit (by rw [xF_len]; exact hlen) hdg (fun H1 locs1 h1 h2 h3 => kk H1 locs1 (hp.set hh (m' := sR mm g a (some v)) rfl rfl hk0 hj h1 h2 ?_ (fun b hb9 => ?_)) h3)
  · rw [ent_O (m := sR mm g a (some v)) hk hci, xF_set (m' := sR mm g a (some v))]
    · unfold xf
      rw [hty, hg]
      show va_rf (up2 (mR mm) g a (some v) g a) = _
      rw [up2_self]; rfl
    · intro j9 _ hne
      unfold xf
      have hng : ¬ (20 * ci + j9 = g ∧ a = a) := fun z => by omega
      rw [show mR (sR mm g a (some v)) (20 * ci + j9) a = mR mm (20 * ci + j9) a from up2_ne _ _ hng]; rfl
  · refine ent_congr rfl rfl (fun g9 => ?_) (fun g9 => ?_) (fun g9 => ?_) rfl rfl rfl rfl
    · rfl
    · rfl
    · exact (up2_ne _ _ (fun z => hb9 z.2)).symm

theorem xr_putRF (hx : p.tables.exec = Jvm.exec) (hb : c.code = cc) {own ref C : String} {T : u_T} {N ci index : Nat} (hL : ∀ w ∈ u_ws C T N, w.before args s = true) (hown : s.vm.findClass own = some m.cls) (hK : va_K G.1 vwCl (xtys G) s) (hh : hp G (xA base) mm H) (hk : mK mm a = ci + 1) (hci : ci < 10) (hc : vwCl[ci]? = some (C, T, N)) (k g : Nat) (hg : 20 * ci + k = g) (hty : xty ci k = 2) (hlen : k < (xt.getD ci []).length) (hkN : k < N) (hlink : (Cond.fieldLink own index ref (T k).2.1 (T k).2.2.1).before args s = true) (hsame : ∀ x, s.fieldFound? (T k).1 (T k).2.1 (T k).2.2.1 = some x → s.fieldFound? ref (T k).2.1 (T k).2.2.1 = some x) (ty0 : Nat → FieldType) (hty0 : ∀ k, k < N → parseFieldDescriptor (T k).2.2.1 = some (ty0 k)) (hnm : ∀ a, a < N → ∀ b, b < N → a ≠ b → (T a).2.1 ≠ (T b).2.1) (hfin : (T k).2.2.2 = true) (hin2 : meth.name = "<init>") (hdecl : (T k).1 = own) {v : Nat} (hn : narrow (ty0 k) (.ref v) = .ref v) (hfit : fits (ty0 k) (.ref v) = true) (hS : va_S (xA base) s.heap H locs) (hdg : decode cc pc = .ok (.putfield index, 3)) (kk : ∀ (H1 : Heap) (locs1 : List Loc), hp G (xA base) (sR mm g a (some v)) H1 → va_S (xA base) s.heap H1 locs1 → W p l e R s m args below meth c H1 locs1 cells slots Q (F0 m (pc + 3) ls rest)) : W p l e R s m args below meth c H locs cells slots Q (F0 m pc ls (.ref v :: .ref a :: rest)) := by
  have hk0 : mK mm a ≠ 0 := by rw [hk]; omega
  obtain ⟨j, hj⟩ := (hh.get hk0).2
  have hj2 := hj.trans (congrArg (fun e => some (a, e)) (ent_O (G := G) hk hci))
  refine va_putF hx hb hL (fun _ h => h) ty0 hty0 hnm hown hK hh.1 hh.2.1 hS j hj2 hc k hkN hlink hsame hfin hin2 hdecl (hty0 k hkN) hn hfit (by rw [xF_len]; exact hlen) hdg (fun H1 locs1 h1 h2 h3 => kk H1 locs1 (hp.set hh (m' := sR mm g a (some v)) rfl rfl hk0 hj h1 h2 ?_ (fun b hb9 => ?_)) h3)
  · rw [ent_O (m := sR mm g a (some v)) hk hci, xF_set (m' := sR mm g a (some v))]
    · unfold xf
      rw [hty, hg]
      show va_rf (up2 (mR mm) g a (some v) g a) = _
      rw [up2_self]; rfl
    · intro j9 _ hne
      unfold xf
      have hng : ¬ (20 * ci + j9 = g ∧ a = a) := fun z => by omega
      rw [show mR (sR mm g a (some v)) (20 * ci + j9) a = mR mm (20 * ci + j9) a from up2_ne _ _ hng]; rfl
  · refine ent_congr rfl rfl (fun g9 => ?_) (fun g9 => ?_) (fun g9 => ?_) rfl rfl rfl rfl
    · rfl
    · rfl
    · exact (up2_ne _ _ (fun z => hb9 z.2)).symm

theorem xr_iald (hx : p.tables.exec = Jvm.exec) (hb : c.code = cc) (hK : va_K G.1 vwCl (xtys G) s) (hh : hp G (xA base) mm H) (hk : mK mm a = 11) {i : Int32} (hin : vp_in i (mN mm a)) (hdg : decode cc pc = .ok (.iaload, 1)) (kk : W p l e R s m args below meth c H locs cells slots Q (F0 m (pc + 1) ls (.int (mAI mm a i.toNatClampNeg) :: rest))) : W p l e R s m args below meth c H locs cells slots Q (F0 m pc ls (.int i :: .ref a :: rest)) := by
  obtain ⟨j, hj⟩ := (hh.get (by rw [hk]; omega)).2
  exact va_iald hx hb hK hh.1 j 0 (hj.trans (by rw [ent_11 hk])) rfl hin hdg kk
theorem xr_iast (hx : p.tables.exec = Jvm.exec) (hb : c.code = cc) (hK : va_K G.1 vwCl (xtys G) s) (hh : hp G (xA base) mm H) (hk : mK mm a = 11) (hS : va_S (xA base) s.heap H locs) {i : Int32} {x : Int32} (hin : vp_in i (mN mm a)) (hdg : decode cc pc = .ok (.iastore, 1)) (kk : ∀ (H1 : Heap) (locs1 : List Loc), hp G (xA base) (sAI mm a (va_up (mAI mm a) i.toNatClampNeg x)) H1 → va_S (xA base) s.heap H1 locs1 → W p l e R s m args below meth c H1 locs1 cells slots Q (F0 m (pc + 1) ls rest)) : W p l e R s m args below meth c H locs cells slots Q (F0 m pc ls (.int x :: .int i :: .ref a :: rest)) := by
  have hk0 : mK mm a ≠ 0 := by rw [hk]; omega
  obtain ⟨j, hj⟩ := (hh.get hk0).2
  refine va_iast hx hb hK hh.1 hh.2.1 hS j 0 (hj.trans (by rw [ent_11 hk])) rfl hin hdg (fun H1 locs1 h1 h2 h3 => kk H1 locs1 (hp.set hh (m' := sAI mm a (va_up (mAI mm a) i.toNatClampNeg x)) rfl rfl hk0 hj h1 h2 ?_ (fun b hb9 => ent_congr rfl rfl (fun _ => rfl) (fun _ => rfl) (fun _ => rfl) (va_up_ne _ _ hb9).symm rfl rfl rfl)) h3)
  rw [ent_11 (m := sAI mm a (va_up (mAI mm a) i.toNatClampNeg x)) hk, show mAI (sAI mm a (va_up (mAI mm a) i.toNatClampNeg x)) a = va_up (mAI mm a) i.toNatClampNeg x from va_up_self _ _ _]
  rfl
theorem xr_ilen (hx : p.tables.exec = Jvm.exec) (hb : c.code = cc) (hK : va_K G.1 vwCl (xtys G) s) (hh : hp G (xA base) mm H) (hk : mK mm a = 11) (hdg : decode cc pc = .ok (.arraylength, 1)) (kk : W p l e R s m args below meth c H locs cells slots Q (F0 m (pc + 1) ls (.int (nI (mN mm a)) :: rest))) : W p l e R s m args below meth c H locs cells slots Q (F0 m pc ls (.ref a :: rest)) := by
  obtain ⟨j, hj⟩ := (hh.get (by rw [hk]; omega)).2
  have hj2 := hj.trans (congrArg (fun e => some (a, e)) (ent_11 (G := G) hk))
  exact va_alen hx hb hK hh.1 j 0 hj2 rfl rfl hdg kk

theorem xr_qald (hx : p.tables.exec = Jvm.exec) (hb : c.code = cc) (hK : va_K G.1 vwCl (xtys G) s) (hh : hp G (xA base) mm H) (hk : mK mm a = 14) {i : Int32} (hin : vp_in i (mN mm a)) (hdg : decode cc pc = .ok (.aaload, 1)) (kk : ∀ o : Option Nat, o = mAR mm a i.toNatClampNeg → W p l e R s m args below meth c H locs cells slots Q (F0 m (pc + 1) ls (va_rf o :: rest))) : W p l e R s m args below meth c H locs cells slots Q (F0 m pc ls (.int i :: .ref a :: rest)) := by
  obtain ⟨j, hj⟩ := (hh.get (by rw [hk]; omega)).2
  exact va_aldq (C := "RollupStore$Rollup") hx hb hK hh.1 j 3 (hj.trans (by rw [ent_14 hk])) rfl hin hdg (kk _ rfl)
theorem xr_qast (hx : p.tables.exec = Jvm.exec) (hb : c.code = cc) (hK : va_K G.1 vwCl (xtys G) s) (hh : hp G (xA base) mm H) (hk : mK mm a = 14) (hS : va_S (xA base) s.heap H locs) {i : Int32} {x : Nat} (hkx : mK mm x = 2) (hin : vp_in i (mN mm a)) (hdg : decode cc pc = .ok (.aastore, 1)) (kk : ∀ (H1 : Heap) (locs1 : List Loc), hp G (xA base) (sAR mm a (va_up (mAR mm a) i.toNatClampNeg (some x))) H1 → va_S (xA base) s.heap H1 locs1 → W p l e R s m args below meth c H1 locs1 cells slots Q (F0 m (pc + 1) ls rest)) : W p l e R s m args below meth c H locs cells slots Q (F0 m pc ls (.ref x :: .int i :: .ref a :: rest)) := by
  have hk0 : mK mm a ≠ 0 := by rw [hk]; omega
  obtain ⟨j, hj⟩ := (hh.get hk0).2
  obtain ⟨j2, hj2⟩ := (hh.get (a := x) (by rw [hkx]; omega)).2
  refine va_astq (r := (RX1, TX1, (xt.getD 1 []).length)) hx hb hK hh.1 hh.2.1 hS j 3 j2 1 (hj.trans (by rw [ent_14 hk])) rfl (hj2.trans (by rw [ent_O (ci := 1) hkx (by omega)])) rfl hin hdg (fun H1 locs1 h1 h2 h3 => kk H1 locs1 (hp.set hh (m' := sAR mm a (va_up (mAR mm a) i.toNatClampNeg (some x))) rfl rfl hk0 hj h1 h2 ?_ (fun b hb9 => ent_congr rfl rfl (fun _ => rfl) (fun _ => rfl) (fun _ => rfl) rfl rfl rfl (va_up_ne _ _ hb9).symm)) h3)
  rw [ent_14 (m := sAR mm a (va_up (mAR mm a) i.toNatClampNeg (some x))) hk, show mAR (sAR mm a (va_up (mAR mm a) i.toNatClampNeg (some x))) a = va_up (mAR mm a) i.toNatClampNeg (some x) from va_up_self _ _ _]
  rfl
theorem xr_qlen (hx : p.tables.exec = Jvm.exec) (hb : c.code = cc) (hK : va_K G.1 vwCl (xtys G) s) (hh : hp G (xA base) mm H) (hk : mK mm a = 14) (hdg : decode cc pc = .ok (.arraylength, 1)) (kk : W p l e R s m args below meth c H locs cells slots Q (F0 m (pc + 1) ls (.int (nI (mN mm a)) :: rest))) : W p l e R s m args below meth c H locs cells slots Q (F0 m pc ls (.ref a :: rest)) := by
  obtain ⟨j, hj⟩ := (hh.get (by rw [hk]; omega)).2
  have hj2 := hj.trans (congrArg (fun e => some (a, e)) (ent_14 (G := G) hk))
  exact va_alen hx hb hK hh.1 j 3 hj2 rfl rfl hdg kk

theorem xr_sald (hx : p.tables.exec = Jvm.exec) (hb : c.code = cc) (hK : va_K G.1 vwCl (xtys G) s) (hh : hp G (xA base) mm H) (hk : mK mm a = 15) {i : Int32} (hin : vp_in i (mN mm a)) (hdg : decode cc pc = .ok (.aaload, 1)) (kk : ∀ o : Option Nat, o = mAR mm a i.toNatClampNeg → W p l e R s m args below meth c H locs cells slots Q (F0 m (pc + 1) ls (va_rf o :: rest))) : W p l e R s m args below meth c H locs cells slots Q (F0 m pc ls (.int i :: .ref a :: rest)) := by
  obtain ⟨j, hj⟩ := (hh.get (by rw [hk]; omega)).2
  exact va_aldq (C := "RollupStore$Series") hx hb hK hh.1 j 4 (hj.trans (by rw [ent_15 hk])) rfl hin hdg (kk _ rfl)
theorem xr_sast (hx : p.tables.exec = Jvm.exec) (hb : c.code = cc) (hK : va_K G.1 vwCl (xtys G) s) (hh : hp G (xA base) mm H) (hk : mK mm a = 15) (hS : va_S (xA base) s.heap H locs) {i : Int32} {x : Nat} (hkx : mK mm x = 4) (hin : vp_in i (mN mm a)) (hdg : decode cc pc = .ok (.aastore, 1)) (kk : ∀ (H1 : Heap) (locs1 : List Loc), hp G (xA base) (sAR mm a (va_up (mAR mm a) i.toNatClampNeg (some x))) H1 → va_S (xA base) s.heap H1 locs1 → W p l e R s m args below meth c H1 locs1 cells slots Q (F0 m (pc + 1) ls rest)) : W p l e R s m args below meth c H locs cells slots Q (F0 m pc ls (.ref x :: .int i :: .ref a :: rest)) := by
  have hk0 : mK mm a ≠ 0 := by rw [hk]; omega
  obtain ⟨j, hj⟩ := (hh.get hk0).2
  obtain ⟨j2, hj2⟩ := (hh.get (a := x) (by rw [hkx]; omega)).2
  refine va_astq (r := (RX3, TX3, (xt.getD 3 []).length)) hx hb hK hh.1 hh.2.1 hS j 4 j2 3 (hj.trans (by rw [ent_15 hk])) rfl (hj2.trans (by rw [ent_O (ci := 3) hkx (by omega)])) rfl hin hdg (fun H1 locs1 h1 h2 h3 => kk H1 locs1 (hp.set hh (m' := sAR mm a (va_up (mAR mm a) i.toNatClampNeg (some x))) rfl rfl hk0 hj h1 h2 ?_ (fun b hb9 => ent_congr rfl rfl (fun _ => rfl) (fun _ => rfl) (fun _ => rfl) rfl rfl rfl (va_up_ne _ _ hb9).symm)) h3)
  rw [ent_15 (m := sAR mm a (va_up (mAR mm a) i.toNatClampNeg (some x))) hk, show mAR (sAR mm a (va_up (mAR mm a) i.toNatClampNeg (some x))) a = va_up (mAR mm a) i.toNatClampNeg (some x) from va_up_self _ _ _]
  rfl
theorem xr_slen (hx : p.tables.exec = Jvm.exec) (hb : c.code = cc) (hK : va_K G.1 vwCl (xtys G) s) (hh : hp G (xA base) mm H) (hk : mK mm a = 15) (hdg : decode cc pc = .ok (.arraylength, 1)) (kk : W p l e R s m args below meth c H locs cells slots Q (F0 m (pc + 1) ls (.int (nI (mN mm a)) :: rest))) : W p l e R s m args below meth c H locs cells slots Q (F0 m pc ls (.ref a :: rest)) := by
  obtain ⟨j, hj⟩ := (hh.get (by rw [hk]; omega)).2
  have hj2 := hj.trans (congrArg (fun e => some (a, e)) (ent_15 (G := G) hk))
  exact va_alen hx hb hK hh.1 j 4 hj2 rfl rfl hdg kk

theorem xr_copy (hx : p.tables.exec = Jvm.exec) (hb : c.code = cc) (hml : c.maxLocals = ls.size) {own : String} {index : Nat} (hown : s.vm.findClass own = some m.cls) (hlink : (Cond.methodLink own index arraycopyName).before args s = true) (hnat : (Cond.native arraycopyName).before args s = true) (hstat : (Cond.static arraycopyName).before args s = true) (hini : (Cond.initialized "java/lang/System").before args s = true) (hK : va_K G.1 vwCl (xtys G) s) (hh : hp G (xA base) mm H) (hS : va_S (xA base) s.heap H locs) {a0 : Nat} (hk0 : mK mm a0 = 11) (hk : mK mm a = 11)
    {sp dp n : Int32} (h1 : ¬ sp < 0) (h2 : ¬ dp < 0) (h3 : ¬ n < 0) (h4 : sp.toNatClampNeg + n.toNatClampNeg ≤ mN mm a0) (h5 : dp.toNatClampNeg + n.toNatClampNeg ≤ mN mm a) (hframes : 1 ≤ R.frames) (hlocals : (rest.map fun v => v.category).sum + (nativeFrameWords "java/lang/System" "arraycopy" 5 + 11) ≤ R.locals) (hdg : decode cc pc = .ok (.invokestatic index, 3))
    (kk : ∀ (H1 : Heap) (locs1 : List Loc), hp G (xA base) (sAI mm a (va_cpy (mAI mm a0) (mAI mm a) sp.toNatClampNeg dp.toNatClampNeg n.toNatClampNeg)) H1 → va_S (xA base) s.heap H1 locs1 → W p l e R s m args below meth c H1 locs1 cells slots Q (F0 m (pc + 3) ls rest)) : W p l e R s m args below meth c H locs cells slots Q (F0 m pc ls (.int n :: .int dp :: .ref a :: .int sp :: .ref a0 :: rest)) := by
  have hz0 : mK mm a0 ≠ 0 := by rw [hk0]; omega
  have hz1 : mK mm a ≠ 0 := by rw [hk]; omega
  obtain ⟨j0, hj0⟩ := (hh.get hz0).2
  obtain ⟨j1, hj1⟩ := (hh.get hz1).2
  refine va_copyi (ty := .int) hx hb hml hown hlink hnat hstat hini hK hh.1 hh.2.1 hS j0 j1 0 0 (hj0.trans (by rw [ent_11 hk0])) (hj1.trans (by rw [ent_11 hk])) rfl rfl rfl h1 h2 h3 h4 h5 (fun _ _ => rfl) hframes hlocals hdg (fun H1 locs1 g1 g2 g3 => kk H1 locs1 (hp.set hh (m' := sAI mm a (va_cpy (mAI mm a0) (mAI mm a) sp.toNatClampNeg dp.toNatClampNeg n.toNatClampNeg)) rfl rfl hz1 hj1 g1 g2 ?_ (fun b hb9 => ent_congr rfl rfl (fun _ => rfl) (fun _ => rfl) (fun _ => rfl) (va_up_ne _ _ hb9).symm rfl rfl rfl)) g3)
  rw [ent_11 (m := sAI mm a (va_cpy (mAI mm a0) (mAI mm a) sp.toNatClampNeg dp.toNatClampNeg n.toNatClampNeg)) hk, show mAI (sAI mm a (va_cpy (mAI mm a0) (mAI mm a) sp.toNatClampNeg dp.toNatClampNeg n.toNatClampNeg)) a = _ from va_up_self _ _ _]
  rfl

theorem nw_K (m : MM) (k n a : Nat) : mK (nw m k n a) a = k := va_up_self _ _ _
theorem nw_N (m : MM) (k n a : Nat) : mN (nw m k n a) a = n := va_up_self _ _ _
theorem nw_xf (m : MM) (k n a ci j : Nat) : xf (nw m k n a) ci a j = match xty ci j with
  | 0 => .int 0
  | 1 => .long 0
  | _ => .null := by
  unfold xf
  rw [show mI (nw m k n a) (20 * ci + j) a = 0 from if_pos rfl, show mJ (nw m k n a) (20 * ci + j) a = 0 from if_pos rfl, show mR (nw m k n a) (20 * ci + j) a = none from if_pos rfl]
  rfl
theorem xr_new (hx : p.tables.exec = Jvm.exec) (hb : c.code = cc) {own C : String} {T : u_T} {N ci index : Nat} (hL : ∀ w ∈ u_ws C T N, w.before args s = true) (ty : Nat → FieldType) (hty : ∀ k, k < N → parseFieldDescriptor (T k).2.2.1 = some (ty k)) (hown : s.vm.findClass own = some m.cls) (hcl : (Cond.classLink own index C).before args s = true) (hinst : (Cond.instantiable C N).before args s = true) (hini : (Cond.initialized C).before args s = true)
    (hK : va_K G.1 vwCl (xtys G) s) (hh : hp G (xA base) mm H) (hS : va_S (xA base) s.heap H locs) (hbase : base ≤ s.heap.size) (hci : ci < 10) (hc : vwCl[ci]? = some (C, T, N)) (hdv : ∀ j, j < N → j < (xt.getD ci []).length ∧ defaultValue (ty j) = (match xty ci j with | 0 => .int 0 | 1 => .long 0 | _ => .null)) (hcells : cells + 1 ≤ R.cells) (hslots : slots + N ≤ R.slots) (hdg : decode cc pc = .ok (.new index, 3))
    (kk : ∀ (q : Nat) (H1 : Heap), mK mm q = 0 → base ≤ q → hp G (xA base) (nw mm (ci + 1) 0 q) H1 → va_S (xA base) s.heap H1 locs → W p l e R s m args below meth c H1 locs (cells + 1) (slots + N) Q (F0 m (pc + 3) ls (.ref q :: rest))) : W p l e R s m args below meth c H locs cells slots Q (F0 m pc ls rest) := by
  refine va_new (A := xA base) (fs := xF (nw mm (ci + 1) 0 0) ci 0) hx hb hL (fun _ h => h) ty hty hown hcl hinst hini hK hh.1 hh.2.1 hS (fun q hq => Nat.le_trans hbase hq) hc (fun j hj => ?_) hcells hslots hdg (fun q H1 h1 h2 h3 => ?_)
  · obtain ⟨g1, g2⟩ := hdv j hj
    rw [g2]
    unfold vp_V
    rw [List.getD_eq_getElem?_getD, xF_get g1, nw_xf]
    rfl
  · obtain ⟨g1, g2, g3⟩ := hp.push (k := ci + 1) (n := 0) hh h1 h2 (by
      rw [ent_O (m := nw mm (ci + 1) 0 q) (ci := ci) (nw_K _ _ _ _) hci]
      congr 2
      unfold xF
      congr 1
      funext j
      rw [nw_xf, nw_xf])
    exact kk q H1 g1 g2 g3 h3

theorem xr_newi (hx : p.tables.exec = Jvm.exec) (hb : c.code = cc) (harr : (Cond.arrayClass .int).before args s = true) (hK : va_K G.1 vwCl (xtys G) s) (hh : hp G (xA base) mm H) (hS : va_S (xA base) s.heap H locs) (hbase : base ≤ s.heap.size) {n : Int32} {N' : Nat} (hn : ¬ n < 0) (hN : n.toNatClampNeg = N') (hbytes : N' * componentBytes .int ≤ 536870912) (hcells : cells + 1 ≤ R.cells) (hslots : slots + N' ≤ R.slots) (hdg : decode cc pc = .ok (.newarray .int, 2))
    (kk : ∀ (q : Nat) (H1 : Heap), mK mm q = 0 → base ≤ q → hp G (xA base) (nw mm 11 N' q) H1 → va_S (xA base) s.heap H1 locs → W p l e R s m args below meth c H1 locs (cells + 1) (slots + N') Q (F0 m (pc + 2) ls (.ref q :: rest))) : W p l e R s m args below meth c H locs cells slots Q (F0 m pc ls (.int n :: rest)) := by
  refine va_newa (A := xA base) (atype := .int) (ty := .int) (a0 := (N', .inl (fun _ => 0))) hx hb harr rfl hK hh.1 hh.2.1 hS (fun q hq => Nat.le_trans hbase hq) (fun cA => rfl) hn hN hbytes hcells hslots hdg (fun q cA H1 hK1 h1 h2 h3 => ?_)
  have e : cA = G.2.1 := by
    have g1 := (hK1.2 5 _ rfl).2
    have g2 := (hK.2 0 _ rfl).2
    exact Option.some.inj (g1.symm.trans g2)
  subst e
  obtain ⟨g1, g2, g3⟩ := hp.push (k := 11) (n := N') hh h1 h2 (by
    rw [ent_11 (m := nw mm 11 N' q) (nw_K _ _ _ _), nw_N, show mAI (nw mm 11 N' q) q = (fun _ => 0) from va_up_self _ _ _])
  exact kk q H1 g1 g2 g3 h3

theorem xr_newq (hx : p.tables.exec = Jvm.exec) (hb : c.code = cc) {own : String} {index : Nat} (hown : s.vm.findClass own = some m.cls) (hclink : (Cond.classLink own index "RollupStore$Rollup").before args s = true) (hover : va_AO "RollupStore$Rollup" s) (hK : va_K G.1 vwCl (xtys G) s) (hh : hp G (xA base) mm H) (hS : va_S (xA base) s.heap H locs) (hbase : base ≤ s.heap.size) {n : Int32} {N' : Nat} (hn : ¬ n < 0) (hN : n.toNatClampNeg = N') (hbytes : N' * 4 ≤ 536870912) (hcells : cells + 1 ≤ R.cells) (hslots : slots + N' ≤ R.slots) (hdg : decode cc pc = .ok (.anewarray index, 3))
    (kk : ∀ (q : Nat) (H1 : Heap), mK mm q = 0 → base ≤ q → hp G (xA base) (nw mm 14 N' q) H1 → va_S (xA base) s.heap H1 locs → W p l e R s m args below meth c H1 locs (cells + 1) (slots + N') Q (F0 m (pc + 3) ls (.ref q :: rest))) : W p l e R s m args below meth c H locs cells slots Q (F0 m pc ls (.int n :: rest)) := by
  refine va_newq (A := xA base) hx hb hown hclink hover hK hh.1 hh.2.1 hS (fun q hq => Nat.le_trans hbase hq) hn hN hbytes hcells hslots hdg (fun q cA H1 hK1 h1 h2 h3 => ?_)
  have e : cA = G.2.2.2.2.1 := by
    obtain ⟨_, _, _, _, _, g1⟩ := (hK1.2 5 _ rfl).2
    obtain ⟨_, _, _, _, _, g2⟩ := (hK.2 3 _ rfl).2
    exact Option.some.inj (g1.symm.trans g2)
  subst e
  obtain ⟨g1, g2, g3⟩ := hp.push (k := 14) (n := N') hh h1 h2 (by
    rw [ent_14 (m := nw mm 14 N' q) (nw_K _ _ _ _), nw_N, show mAR (nw mm 14 N' q) q = (fun _ => none) from va_up_self _ _ _])
  exact kk q H1 g1 g2 g3 h3

theorem xr_news (hx : p.tables.exec = Jvm.exec) (hb : c.code = cc) {own : String} {index : Nat} (hown : s.vm.findClass own = some m.cls) (hclink : (Cond.classLink own index "RollupStore$Series").before args s = true) (hover : va_AO "RollupStore$Series" s) (hK : va_K G.1 vwCl (xtys G) s) (hh : hp G (xA base) mm H) (hS : va_S (xA base) s.heap H locs) (hbase : base ≤ s.heap.size) {n : Int32} {N' : Nat} (hn : ¬ n < 0) (hN : n.toNatClampNeg = N') (hbytes : N' * 4 ≤ 536870912) (hcells : cells + 1 ≤ R.cells) (hslots : slots + N' ≤ R.slots) (hdg : decode cc pc = .ok (.anewarray index, 3))
    (kk : ∀ (q : Nat) (H1 : Heap), mK mm q = 0 → base ≤ q → hp G (xA base) (nw mm 15 N' q) H1 → va_S (xA base) s.heap H1 locs → W p l e R s m args below meth c H1 locs (cells + 1) (slots + N') Q (F0 m (pc + 3) ls (.ref q :: rest))) : W p l e R s m args below meth c H locs cells slots Q (F0 m pc ls (.int n :: rest)) := by
  refine va_newq (A := xA base) hx hb hown hclink hover hK hh.1 hh.2.1 hS (fun q hq => Nat.le_trans hbase hq) hn hN hbytes hcells hslots hdg (fun q cA H1 hK1 h1 h2 h3 => ?_)
  have e : cA = G.2.2.2.2.2 := by
    obtain ⟨_, _, _, _, _, g1⟩ := (hK1.2 5 _ rfl).2
    obtain ⟨_, _, _, _, _, g2⟩ := (hK.2 4 _ rfl).2
    exact Option.some.inj (g1.symm.trans g2)
  subst e
  obtain ⟨g1, g2, g3⟩ := hp.push (k := 15) (n := N') hh h1 h2 (by
    rw [ent_15 (m := nw mm 15 N' q) (nw_K _ _ _ _), nw_N, show mAR (nw mm 15 N' q) q = (fun _ => none) from va_up_self _ _ _])
  exact kk q H1 g1 g2 g3 h3

end ROWS

theorem xd_0 : ∀ j, j < 3 → j < (xt.getD 0 []).length ∧ defaultValue (tyX0 j) = (match xty 0 j with | 0 => Value.int 0 | 1 => Value.long 0 | _ => Value.null) := by
  intro j hj
  rcases (show j = 0 ∨ j = 1 ∨ j = 2 by omega) with rfl | rfl | rfl <;> exact ⟨by decide, rfl⟩

theorem xd_1 : ∀ j, j < 8 → j < (xt.getD 1 []).length ∧ defaultValue (tyX1 j) = (match xty 1 j with | 0 => Value.int 0 | 1 => Value.long 0 | _ => Value.null) := by
  intro j hj
  rcases (show j = 0 ∨ j = 1 ∨ j = 2 ∨ j = 3 ∨ j = 4 ∨ j = 5 ∨ j = 6 ∨ j = 7 by omega) with rfl | rfl | rfl | rfl | rfl | rfl | rfl | rfl <;> exact ⟨by decide, rfl⟩

theorem xd_2 : ∀ j, j < 3 → j < (xt.getD 2 []).length ∧ defaultValue (tyX2 j) = (match xty 2 j with | 0 => Value.int 0 | 1 => Value.long 0 | _ => Value.null) := by
  intro j hj
  rcases (show j = 0 ∨ j = 1 ∨ j = 2 by omega) with rfl | rfl | rfl <;> exact ⟨by decide, rfl⟩

theorem xd_3 : ∀ j, j < 5 → j < (xt.getD 3 []).length ∧ defaultValue (tyX3 j) = (match xty 3 j with | 0 => Value.int 0 | 1 => Value.long 0 | _ => Value.null) := by
  intro j hj
  rcases (show j = 0 ∨ j = 1 ∨ j = 2 ∨ j = 3 ∨ j = 4 by omega) with rfl | rfl | rfl | rfl | rfl <;> exact ⟨by decide, rfl⟩

theorem xd_4 : ∀ j, j < 6 → j < (xt.getD 4 []).length ∧ defaultValue (tyX4 j) = (match xty 4 j with | 0 => Value.int 0 | 1 => Value.long 0 | _ => Value.null) := by
  intro j hj
  rcases (show j = 0 ∨ j = 1 ∨ j = 2 ∨ j = 3 ∨ j = 4 ∨ j = 5 by omega) with rfl | rfl | rfl | rfl | rfl | rfl <;> exact ⟨by decide, rfl⟩

theorem xd_5 : ∀ j, j < 7 → j < (xt.getD 5 []).length ∧ defaultValue (tyX5 j) = (match xty 5 j with | 0 => Value.int 0 | 1 => Value.long 0 | _ => Value.null) := by
  intro j hj
  rcases (show j = 0 ∨ j = 1 ∨ j = 2 ∨ j = 3 ∨ j = 4 ∨ j = 5 ∨ j = 6 by omega) with rfl | rfl | rfl | rfl | rfl | rfl | rfl <;> exact ⟨by decide, rfl⟩
