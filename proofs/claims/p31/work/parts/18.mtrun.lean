/-! EACH METHOD AS ITS wp SAYS: written by wip/whole/gen.py -/
set_option maxHeartbeats 4000000 in
set_option maxRecDepth 100000 in
theorem mt_L_law {b LL : Nat} {xs : Nat → Int32} {p : Program} {l : Launch} {e : Env} {s : State} {m : MethodId} {below : List Frame} {meth : Method} {c : Code} {G : GG} (C0 : BC p s m #[Value.ref b] meth c G s.heap.size RL cL_law 1 ret wsL_law) (hl9 : l.stackTraces = false) (hXs : va_X b LL xs s s.heap) (hbl : b < s.heap.size) {m0 : MM} {kc ks : Nat} (hcc : 0 + kc ≤ 600074) (hss : 0 + ks ≤ 7301550) (hh : hp G (xA s.heap.size) m0 s.heap) (h : wp_L_law m0 xs LL kc ks) : W p l e room_1 s m #[Value.ref b] below meth c s.heap [] 0 0 (lw_Z below #[Value.ref b] s) (entryFrame m ([Value.ref b] : List Value).toArray 1) := by
  obtain ⟨hx, hb, hr, hml, hown, hts, hlocks, hK, hbase, hX⟩ := id C0
  have hbA : ¬ xA s.heap.size b := Nat.not_le.mpr hbl
  have hS : va_S (xA s.heap.size) s.heap s.heap [] := va_S.rf
  have hl := lv_entry ([.ref b]) (n := 1) (Nat.le_of_ble_eq_true rfl)
  rw [lg_entry_eq]
  generalize (lg_sl ([.ref b]) ++ List.replicate (1 - (lg_sl ([.ref b])).length) Slot.unset).toArray = ls at hl ⊢
  have hl : lv_has ls 1 [(0, .ref b)] := hl
  unfold wp_L_law at h
  refine lv_aload_n hx hb dL_law_0 rfl (lv_at hl 0 rfl) ?_
  refine lv_iconst (v := 0) hx hb dL_law_1 (by decide) ?_
  obtain ⟨c1, s2, g3, g4, h⟩ := h
  refine xc_i (va_runS (As := [.ref b, .int (0 : Int32)]) (rest := []) ⟨hx, hb, hml, hown, hts⟩ (mt_L_store l hl9 G (s.heap.size) h) (va_cwS 2 hts gL_law_L_store rfl rfl rfl (by decide +kernel) ⟨Nat.le_of_ble_eq_true rfl, Nat.le_of_ble_eq_true rfl⟩) (xs_S hbase hh hK hX hS hXs hbl) rfl rfl hl.1 rfl (lv_room (Nat.le_of_ble_eq_true rfl)) dL_law_2 ⟨by show _ ≤ 600074; omega, by show _ ≤ 7301550; omega⟩) hS (fun r5 m6 H locs h hh hS => ?_)
  obtain ⟨kc7, ekc7⟩ : ∃ z : Nat, z = kc - c1 := ⟨_, rfl⟩
  obtain ⟨ks8, eks8⟩ : ∃ z : Nat, z = ks - s2 := ⟨_, rfl⟩
  replace h := h kc7 ks8 ekc7 eks8
  obtain ⟨cl9, ecl9⟩ : ∃ z : Nat, z = 0 + c1 := ⟨_, rfl⟩
  obtain ⟨sl10, esl10⟩ : ∃ z : Nat, z = 0 + s2 := ⟨_, rfl⟩
  refine W_cs ecl9 esl10 ?_
  have hcc : cl9 + kc7 ≤ 600074 := by omega
  have hss : sl10 + ks8 ≤ 7301550 := by omega
  refine lv_if_eq (tgt := 31) hx hb dL_law_5 (by decide) (fun c11 => ?_) (fun c11 => ?_)
  · replace h := h.1 c11
    refine lv_iconst (v := 0) hx hb dL_law_31 (by decide) ?_
    exact h.elim
  · replace h := h.2 c11
    refine lv_aload_n hx hb dL_law_8 rfl (lv_at hl 0 rfl) ?_
    refine lv_bipush (v := 115) hx hb dL_law_9 (by decide) ?_
    obtain ⟨c12, s13, g14, g15, h⟩ := h
    refine xc_i (va_runS (As := [.ref b, .int (115 : Int32)]) (rest := []) ⟨hx, hb, hml, hown, hts⟩ (mt_L_store l hl9 G (s.heap.size) h) (va_cwS 2 hts gL_law_L_store rfl rfl rfl (by decide +kernel) ⟨Nat.le_of_ble_eq_true rfl, Nat.le_of_ble_eq_true rfl⟩) (xs_S hbase hh hK hX hS hXs hbl) rfl rfl hl.1 rfl (lv_room (Nat.le_of_ble_eq_true rfl)) dL_law_11 ⟨by show _ ≤ 600074; omega, by show _ ≤ 7301550; omega⟩) hS (fun r16 m17 H locs h hh hS => ?_)
    obtain ⟨kc18, ekc18⟩ : ∃ z : Nat, z = kc7 - c12 := ⟨_, rfl⟩
    obtain ⟨ks19, eks19⟩ : ∃ z : Nat, z = ks8 - s13 := ⟨_, rfl⟩
    replace h := h kc18 ks19 ekc18 eks19
    obtain ⟨cl20, ecl20⟩ : ∃ z : Nat, z = cl9 + c12 := ⟨_, rfl⟩
    obtain ⟨sl21, esl21⟩ : ∃ z : Nat, z = sl10 + s13 := ⟨_, rfl⟩
    refine W_cs ecl20 esl21 ?_
    have hcc : cl20 + kc18 ≤ 600074 := by omega
    have hss : sl21 + ks19 ≤ 7301550 := by omega
    refine lv_if_eq (tgt := 31) hx hb dL_law_14 (by decide) (fun c22 => ?_) (fun c22 => ?_)
    · replace h := h.1 c22
      refine lv_iconst (v := 0) hx hb dL_law_31 (by decide) ?_
      exact h.elim
    · replace h := h.2 c22
      refine lv_aload_n hx hb dL_law_17 rfl (lv_at hl 0 rfl) ?_
      refine lv_sipush (v := 230) hx hb dL_law_18 (by decide) ?_
      obtain ⟨c23, s24, g25, g26, h⟩ := h
      refine xc_i (va_runS (As := [.ref b, .int (230 : Int32)]) (rest := []) ⟨hx, hb, hml, hown, hts⟩ (mt_L_store l hl9 G (s.heap.size) h) (va_cwS 2 hts gL_law_L_store rfl rfl rfl (by decide +kernel) ⟨Nat.le_of_ble_eq_true rfl, Nat.le_of_ble_eq_true rfl⟩) (xs_S hbase hh hK hX hS hXs hbl) rfl rfl hl.1 rfl (lv_room (Nat.le_of_ble_eq_true rfl)) dL_law_21 ⟨by show _ ≤ 600074; omega, by show _ ≤ 7301550; omega⟩) hS (fun r27 m28 H locs h hh hS => ?_)
      obtain ⟨kc29, ekc29⟩ : ∃ z : Nat, z = kc18 - c23 := ⟨_, rfl⟩
      obtain ⟨ks30, eks30⟩ : ∃ z : Nat, z = ks19 - s24 := ⟨_, rfl⟩
      replace h := h kc29 ks30 ekc29 eks30
      obtain ⟨cl31, ecl31⟩ : ∃ z : Nat, z = cl20 + c23 := ⟨_, rfl⟩
      obtain ⟨sl32, esl32⟩ : ∃ z : Nat, z = sl21 + s24 := ⟨_, rfl⟩
      refine W_cs ecl31 esl32 ?_
      have hcc : cl31 + kc29 ≤ 600074 := by omega
      have hss : sl32 + ks30 ≤ 7301550 := by omega
      refine lv_if_eq (tgt := 31) hx hb dL_law_24 (by decide) (fun c33 => ?_) (fun c33 => ?_)
      · replace h := h.1 c33
        refine lv_iconst (v := 0) hx hb dL_law_31 (by decide) ?_
        exact h.elim
      · replace h := h.2 c33
        refine lv_iconst (v := 1) hx hb dL_law_27 (by decide) ?_
        refine lv_goto (tgt := 32) hx hb dL_law_28 (by decide) ?_
        refine va_forget (fun q hq => hS.2.2 q hq) ?_
        refine W.widen (k := 600074) (n := 7301550) (by omega) (by omega) ?_
        refine W.base ?_
        exact lw_ret (Drawn.sameBut.refl s.drawn lw_cs) hx hb hr hlocks dL_law_32
