/-! THE START: the classes' numbers and slots, what throws and catches ask, the empty heap -/
theorem ws_str : ∀ q ∈ xStr, Cond.stringRef RX5 q.1 q.2 ∈ lw_tbl := by decide +kernel
theorem ws_exa : ∀ q ∈ xStr, Cond.exactly (.string RX5 q.1) "java/lang/String" ∈ flatC (Jvm.Cond.and given_1 narrow_1) := by decide +kernel
theorem ws_nest : ∀ q ∈ xNest, Cond.methodLinkNest q.1 q.2.1 q.2.2 "RollupStore" ∈ lw_tbl := by decide +kernel
theorem ws_decl : ∀ q ∈ xDecl, Cond.declares q ∈ lw_tbl := by decide +kernel
theorem ws_cast : ∀ k ∈ [0, 1, 2], Cond.castable (xN k) (xN k) ∈ lw_tbl := by decide +kernel
theorem ws_nc : ∀ j ∈ [0, 1, 2], ∀ k ∈ [1, 2], xN j ≠ xN k → Cond.not (.castable (xN j) (xN k)) ∈ flatC (Jvm.Cond.and given_1 narrow_1) := by decide +kernel
theorem xN_of1 (k : Nat) (h : 1 ≤ k) : ∃ j ∈ [1, 2], xN k = xN j := by
  match k, h with
  | 1, _ => exact ⟨1, by decide, rfl⟩
  | n + 2, _ => exact ⟨2, by decide, rfl⟩
theorem xN_of (k : Nat) : ∃ j ∈ [0, 1, 2], xN k = xN j := by
  match k with
  | 0 => exact ⟨0, by decide, rfl⟩
  | 1 => exact ⟨1, by decide, rfl⟩
  | n + 2 => exact ⟨2, by decide, rfl⟩
theorem at_prim {args : Array Value} {s : State} {ty : FieldType} (h : (Cond.arrayClass ty).before args s = true) : ∃ cA, ArrOfT s cA ty ∧ s.vm.findClass ("[" ++ ty.toString) = some cA := by
  obtain ⟨c, k, comp, h1, h2, h3⟩ := Cond.arrayClass_spec h
  exact ⟨c, fun n z => ⟨fun k h => (by cases h), k, h2, comp, h3⟩, h1⟩
theorem at_obj {args : Array Value} {s : State} {C : String} (h : (Cond.arrayOver (.object C)).before args s = true) : ∃ cA, ArrOfT s cA (.object C) ∧ va_RA s cA (.object C) := by
  obtain ⟨comp, c, k, h1, h2, h3, h4, h5⟩ := Cond.arrayOver_spec h
  exact ⟨c, fun n z => ⟨fun k h => (by cases h), k, h3, comp, h4⟩, k, comp, h3, h4, h1, h5⟩
def mm0 : MM := ([], fun _ => 0, fun _ => 0, fun _ _ => 0, fun _ _ => 0, fun _ _ => none, fun _ _ => 0, fun _ _ => 0, fun _ _ => 0, fun _ _ => none)
theorem lw_world {p : Program} {s : State} {m : MethodId} {meth : Method} {c : Code} {b L : Nat} {xs : Nat → Int32} (C0 : lw_At p s m meth c b L xs) : ∃ G : GG, BC p s m #[Value.ref b] meth c G s.heap.size RL cL_law 1 ret wsL_law ∧ hp G (xA s.heap.size) mm0 s.heap := by
  obtain ⟨hx, hb, hr, hml, hown, hts, hX, hbl, hlocks, hgv⟩ := id C0
  have hnv := flat_of_before _ hgv
  obtain ⟨c0, i0, k0⟩ := u_known (C := RX0) (T := TX0) (N := 3) (n := 3) hts inX0 (hts (.instantiable RX0 3) (by decide +kernel))
  obtain ⟨c1, i1, k1⟩ := u_known (C := RX1) (T := TX1) (N := 8) (n := 8) hts inX1 (hts (.instantiable RX1 8) (by decide +kernel))
  obtain ⟨c2, i2, k2⟩ := u_known (C := RX2) (T := TX2) (N := 3) (n := 3) hts inX2 (hts (.instantiable RX2 3) (by decide +kernel))
  obtain ⟨c3, i3, k3⟩ := u_known (C := RX3) (T := TX3) (N := 5) (n := 5) hts inX3 (hts (.instantiable RX3 5) (by decide +kernel))
  obtain ⟨c4, i4, k4⟩ := u_known (C := RX4) (T := TX4) (N := 6) (n := 6) hts inX4 (hts (.instantiable RX4 6) (by decide +kernel))
  obtain ⟨c5, i5, k5⟩ := u_known (C := RX5) (T := TX5) (N := 7) (n := 7) hts inX5 (hts (.instantiable RX5 7) (by decide +kernel))
  obtain ⟨a1, b1, d1⟩ := at_prim (hts (.arrayClass .int) (by decide +kernel))
  have o4 := hts (.arrayOver (.object "RollupStore$Rollup")) (by decide +kernel)
  have o5 := hts (.arrayOver (.object "RollupStore$Series")) (by decide +kernel)
  obtain ⟨a4, b4, d4⟩ := at_obj o4
  obtain ⟨a5, b5, d5⟩ := at_obj o5
  have hA : ∀ a : Nat, a < s.heap.size → ¬ xA s.heap.size a := fun a h => Nat.not_le.mpr h
  have hxx : xx s.heap.size s := by
    refine ⟨vx_Zqof (args := #[Value.ref b]) (hts _ (by decide +kernel)) (hts _ (by decide +kernel)) (hnv _ (by decide +kernel)) hA, vx_Zqof (args := #[Value.ref b]) (hts _ (by decide +kernel)) (hts _ (by decide +kernel)) (hnv _ (by decide +kernel)) hA, fun k => ?_, fun j k q1 h => ?_, fun q hq => ?_, o4, o5, fun q hq => va_Nw.of rfl (hts _ (ws_nest q hq)), fun q hq => va_Nw.of rfl (hts _ (ws_decl q hq))⟩
    · obtain ⟨j, hj, e⟩ := xN_of k
      rw [e]
      exact va_Nw.of rfl (hts _ (ws_cast j hj))
    · obtain ⟨j', hj, e⟩ := xN_of j
      obtain ⟨k', hk, e'⟩ := xN_of1 k q1
      rw [e, e'] at h ⊢
      exact va_Nc.of (hnv _ (ws_nc j' hj k' hk h))
    · obtain ⟨a, -, -, -, ha, -⟩ := Cond.exactly_spec (hnv _ (ws_exa q hq))
      exact ⟨a, vk_R.of (hts _ (ws_str q hq)) ha⟩
  refine ⟨((fun k => if k = 0 then c0 else if k = 1 then c1 else if k = 2 then c2 else if k = 3 then c3 else if k = 4 then c4 else c5, fun k => if k = 0 then i0 else if k = 1 then i1 else if k = 2 then i2 else if k = 3 then i3 else if k = 4 then i4 else i5), a1, a1, a1, a4, a5), ⟨hx, hb, hr, hml, hown, fun w h => hts w (wsL_law_in w h), hlocks, ⟨fun k q hq => ?_, fun k q hq => ?_⟩, Nat.le_refl _, hxx⟩, fun k q h => by simp [mm0, mL, va_pl] at h, ⟨fun i j p q h => by simp [mm0, mL, va_pl] at h, fun k q h => by simp [mm0, mL, va_pl] at h⟩, fun a h => absurd rfl h⟩
  · match k, hq with
    | 0, hq => cases hq; exact k0
    | 1, hq => cases hq; exact k1
    | 2, hq => cases hq; exact k2
    | 3, hq => cases hq; exact k3
    | 4, hq => cases hq; exact k4
    | 5, hq => cases hq; exact k5
    | n + 6, hq => simp [vwCl] at hq
  · match k, hq with
    | 0, hq => cases hq; exact ⟨b1, d1⟩
    | 1, hq => cases hq; exact ⟨b1, d1⟩
    | 2, hq => cases hq; exact ⟨b1, d1⟩
    | 3, hq => cases hq; exact ⟨b4, d4⟩
    | 4, hq => cases hq; exact ⟨b5, d5⟩
    | n + 5, hq => simp [xtys] at hq
theorem lw_noTrace (l : Launch) (hflags : l.flags = flags0) : l.stackTraces = false := by
  show (!l.flags.contains noTraceFlag) = false
  rw [hflags]
  decide +kernel
