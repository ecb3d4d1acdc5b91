/-! EACH METHOD AS ITS wp SAYS: written by wip/whole/gen.py -/
set_option maxHeartbeats 4000000 in
set_option maxRecDepth 100000 in
theorem bk_L_law_172 {b LL : Nat} {xs : Nat → Int32} {p : Program} {l : Launch} {e : Env} {s : State} {m : MethodId} {below : List Frame} {meth : Method} {c : Code} {G : GG} (C0 : BC p s m #[Value.ref b] meth c G s.heap.size RL cL_law 9 ret wsL_law) (hl9 : l.stackTraces = false) (hXs : va_X b LL xs s s.heap) (hbl : b < s.heap.size)  {K : Nat → Nat → Nat → Nat → Int32 → MM → Nat → Nat → Prop} (hK9 : ∀ (l1 : Nat) (l2 : Nat) (l3 : Nat) (l4 : Nat) (l5 : Int32) (m0 : MM) (H : Heap) (locs : List Loc) (ls : Array Slot) (cl9 sl9 kc ks : Nat) (hcc : cl9 + kc ≤ 601024) (hss : sl9 + ks ≤ 7293034), K l1 l2 l3 l4 l5 m0 kc ks → hp G (xA s.heap.size) m0 H → va_S (xA s.heap.size) s.heap H locs → lv_has ls 9 [(0, .ref b), (1, .ref l1), (2, .ref l2), (3, .ref l3), (4, .ref l4), (5, .int l5)] → W p l e room_1 s m #[Value.ref b] below meth c H locs cl9 sl9 (lw_Z below #[Value.ref b] s) (F0 m 28 ls [])) : ∀ (l1 : Nat) (l2 : Nat) (l3 : Nat) (l4 : Nat) (l5 : Int32) (m0 : MM) (H : Heap) (locs : List Loc) (ls : Array Slot) (cl9 sl9 kc ks : Nat) (hcc : cl9 + kc ≤ 601024) (hss : sl9 + ks ≤ 7293034), wp_L_law_172 xs LL K l1 l2 l3 l4 l5 m0 kc ks → hp G (xA s.heap.size) m0 H → va_S (xA s.heap.size) s.heap H locs → lv_has ls 9 [(0, .ref b), (1, .ref l1), (2, .ref l2), (3, .ref l3), (4, .ref l4), (5, .int l5)] → W p l e room_1 s m #[Value.ref b] below meth c H locs cl9 sl9 (lw_Z below #[Value.ref b] s) (F0 m 172 ls []) := by
  obtain ⟨hx, hb, hr, hml, hown, hts, hlocks, hK, hbase, hX⟩ := id C0
  have hbA : ¬ xA s.heap.size b := Nat.not_le.mpr hbl
  intro l1 l2 l3 l4 l5 m0 H locs ls cl9 sl9 kc ks hcc hss h hh hS hl
  unfold wp_L_law_172 at h
  refine lv_aload_n hx hb dL_law_172 rfl (lv_at hl 1 rfl) ?_
  refine lv_aload_n hx hb dL_law_173 rfl (lv_at hl 0 rfl) ?_
  refine lv_iload hx hb dL_law_174 (lv_at hl 5 rfl) ?_
  refine lv_iconst (v := 1) hx hb dL_law_176 (by decide) ?_
  refine lv_iadd hx hb dL_law_177 ?_
  obtain ⟨g53, h⟩ := h
  refine va_sld hx hb hXs hbl hbA hS g53 dL_law_178 ?_
  refine lv_aload_n hx hb dL_law_179 rfl (lv_at hl 3 rfl) ?_
  obtain ⟨g54, g55, h⟩ := h
  refine xt_i (vx_runSX (As := [.ref l1, .int (xs (l5 + (1 : Int32)).toNatClampNeg), .ref l3]) (rest := []) ⟨hx, hb, hml, hown, hts⟩ (mt_L_addSeries l hl9 G (s.heap.size) h) (vx_cwSW 3 hts gL_law_L_addSeries rfl rfl rfl (by decide +kernel) ⟨Nat.le_of_ble_eq_true rfl, Nat.le_of_ble_eq_true rfl⟩) (xp_S hbase hh hK hX hS) rfl rfl hl.1 rfl (lv_room (Nat.le_of_ble_eq_true rfl)) dL_law_180 ⟨by show _ ≤ 601024; omega, by show _ ≤ 7293034; omega⟩) hS (fun k9 m9 H locs q9 ce h hh hS hc9 hv9 hcl9 => h.elim) (fun r56 m57 H locs h hh hS => ?_)
  obtain ⟨kc58, ekc58⟩ : ∃ z : Nat, z = kc - 11 := ⟨_, rfl⟩
  obtain ⟨ks59, eks59⟩ : ∃ z : Nat, z = ks - 247 := ⟨_, rfl⟩
  replace h := h kc58 ks59 ekc58 eks59
  obtain ⟨cl60, ecl60⟩ : ∃ z : Nat, z = cl9 + 11 := ⟨_, rfl⟩
  obtain ⟨sl61, esl61⟩ : ∃ z : Nat, z = sl9 + 247 := ⟨_, rfl⟩
  refine W_cs ecl60 esl61 ?_
  have hcc : cl60 + kc58 ≤ 601024 := by omega
  have hss : sl61 + ks59 ≤ 7293034 := by omega
  refine lv_istore (lv' := [(6, .int r56), (0, .ref b), (1, .ref l1), (2, .ref l2), (3, .ref l3), (4, .ref l4), (5, .int l5)]) hx hb dL_law_183 hl (by decide) rfl (fun ls hl => ?_)
  refine lv_aload_n hx hb dL_law_185 rfl (lv_at hl 3 rfl) ?_
  refine lv_aload_n hx hb dL_law_186 rfl (lv_at hl 1 rfl) ?_
  refine lv_iload hx hb dL_law_187 (lv_at hl 6 rfl) ?_
  refine lv_iconst (v := 1) hx hb dL_law_189 (by decide) ?_
  refine lv_iadd hx hb dL_law_190 ?_
  obtain ⟨g62, h⟩ := h
  refine va_sld hx hb hXs hbl hbA hS g62 dL_law_191 ?_
  obtain ⟨g63, h⟩ := h
  refine xc_i (va_runV (As := [.int (xs (l5 + (1 : Int32)).toNatClampNeg)]) (rest := []) ⟨hx, hb, hml, hown, hts⟩ (mt_X6_addSeries l G (s.heap.size) h) (cwV 1 hts gL_law_X6_addSeries rfl rfl rfl (by decide +kernel) ⟨Nat.le_of_ble_eq_true rfl, Nat.le_of_ble_eq_true rfl⟩) (xp_V hbase hh hK hX hS (ci := 6) g63 (by decide) rfl) rfl rfl hl.1 rfl (lv_room (Nat.le_of_ble_eq_true rfl)) dL_law_192 ⟨by show _ ≤ 601024; omega, by show _ ≤ 7293034; omega⟩) hS (fun r64 m65 H locs h hh hS => ?_)
  refine lv_istore (lv' := [(7, .int r64), (6, .int r56), (0, .ref b), (1, .ref l1), (2, .ref l2), (3, .ref l3), (4, .ref l4), (5, .int l5)]) hx hb dL_law_195 hl (by decide) rfl (fun ls hl => ?_)
  refine lv_aload_n hx hb dL_law_197 rfl (lv_at hl 4 rfl) ?_
  obtain ⟨g66, h⟩ := h
  refine xc_i (va_runV (As := []) (rest := []) ⟨hx, hb, hml, hown, hts⟩ (mt_X6_thrown l G (s.heap.size) h) (cwV 0 hts gL_law_X6_thrown rfl rfl rfl (by decide +kernel) ⟨Nat.le_of_ble_eq_true rfl, Nat.le_of_ble_eq_true rfl⟩) (xp_V hbase hh hK hX hS (ci := 6) g66 (by decide) rfl) rfl rfl hl.1 rfl (lv_room (Nat.le_of_ble_eq_true rfl)) dL_law_198 ⟨by show _ ≤ 601024; omega, by show _ ≤ 7293034; omega⟩) hS (fun r67 m68 H locs h hh hS => ?_)
  refine lv_iload hx hb dL_law_201 (lv_at hl 1 rfl) ?_
  refine lv_icmp_eq (tgt := 208) hx hb dL_law_203 (by decide) (fun c69 => ?_) (fun c69 => ?_)
  · replace h := h.1 c69
    refine lv_iload hx hb dL_law_208 (lv_at hl 1 rfl) ?_
    refine lv_if_ne (tgt := 225) hx hb dL_law_210 (by decide) (fun c70 => ?_) (fun c70 => ?_)
    · replace h := h.1 c70
      refine lv_goto (tgt := 2255) hx hb dL_law_225 (by decide) ?_
      obtain ⟨x71, ex71⟩ : ∃ y : Int32, y = l5 + 7 := ⟨_, rfl⟩
      replace h := h x71 ex71
      refine lv_iinc (v := x71) (lv' := [(5, .int x71), (7, .int r64), (6, .int r56), (0, .ref b), (1, .ref l1), (2, .ref l2), (3, .ref l3), (4, .ref l4)]) hx hb dL_law_2255 hl (k := 7) rfl (by rw [ex71]; rfl) (by decide) rfl (fun ls hl => ?_)
      refine lv_goto (tgt := 28) hx hb dL_law_2258 (by decide) ?_
      exact hK9 _ _ _ _ _ _ _ _ _ cl60 sl61 kc58 ks59 hcc hss h hh hS (lv_sub hl [3, 4, 5, 6, 7, 0] rfl)
    · replace h := h.2 c70
      refine lv_aload_n hx hb dL_law_213 rfl (lv_at hl 5 rfl) ?_
      refine lv_iconst (v := 0) hx hb dL_law_214 (by decide) ?_
      obtain ⟨g72, h⟩ := h
      obtain ⟨g73, h⟩ := h
      refine xr_lald hx hb hK hh g72 g73 dL_law_215 ?_
      refine lv_iload hx hb dL_law_216 (lv_at hl 0 rfl) ?_
      refine lv_i2l hx hb dL_law_218 rfl ?_
      refine W.lcmp hx hb dL_law_219 ?_
      refine lv_if_eq (tgt := 225) hx hb dL_law_220 (by decide) (fun c74 => ?_) (fun c74 => ?_)
      · replace h := h.1 c74
        refine lv_goto (tgt := 2255) hx hb dL_law_225 (by decide) ?_
        obtain ⟨x75, ex75⟩ : ∃ y : Int32, y = l5 + 7 := ⟨_, rfl⟩
        replace h := h x75 ex75
        refine lv_iinc (v := x75) (lv' := [(5, .int x75), (7, .int r64), (6, .int r56), (0, .ref b), (1, .ref l1), (2, .ref l2), (3, .ref l3), (4, .ref l4)]) hx hb dL_law_2255 hl (k := 7) rfl (by rw [ex75]; rfl) (by decide) rfl (fun ls hl => ?_)
        refine lv_goto (tgt := 28) hx hb dL_law_2258 (by decide) ?_
        exact hK9 _ _ _ _ _ _ _ _ _ cl60 sl61 kc58 ks59 hcc hss h hh hS (lv_sub hl [3, 4, 5, 6, 7, 0] rfl)
      · replace h := h.2 c74
        refine lv_iconst (v := 0) hx hb dL_law_223 (by decide) ?_
        exact h.elim
  · replace h := h.2 c69
    refine lv_iconst (v := 0) hx hb dL_law_206 (by decide) ?_
    exact h.elim

set_option maxHeartbeats 4000000 in
set_option maxRecDepth 100000 in
theorem bk_L_law_228 {b LL : Nat} {xs : Nat → Int32} {p : Program} {l : Launch} {e : Env} {s : State} {m : MethodId} {below : List Frame} {meth : Method} {c : Code} {G : GG} (C0 : BC p s m #[Value.ref b] meth c G s.heap.size RL cL_law 9 ret wsL_law) (hl9 : l.stackTraces = false) (hXs : va_X b LL xs s s.heap) (hbl : b < s.heap.size)  {K : Nat → Nat → Nat → Nat → Int32 → MM → Nat → Nat → Prop} (hK9 : ∀ (l1 : Nat) (l2 : Nat) (l3 : Nat) (l4 : Nat) (l5 : Int32) (m0 : MM) (H : Heap) (locs : List Loc) (ls : Array Slot) (cl9 sl9 kc ks : Nat) (hcc : cl9 + kc ≤ 601024) (hss : sl9 + ks ≤ 7293034), K l1 l2 l3 l4 l5 m0 kc ks → hp G (xA s.heap.size) m0 H → va_S (xA s.heap.size) s.heap H locs → lv_has ls 9 [(0, .ref b), (1, .ref l1), (2, .ref l2), (3, .ref l3), (4, .ref l4), (5, .int l5)] → W p l e room_1 s m #[Value.ref b] below meth c H locs cl9 sl9 (lw_Z below #[Value.ref b] s) (F0 m 28 ls [])) : ∀ (l1 : Nat) (l2 : Nat) (l3 : Nat) (l4 : Nat) (l5 : Int32) (m0 : MM) (H : Heap) (locs : List Loc) (ls : Array Slot) (cl9 sl9 kc ks : Nat) (hcc : cl9 + kc ≤ 601024) (hss : sl9 + ks ≤ 7293034), wp_L_law_228 xs LL K l1 l2 l3 l4 l5 m0 kc ks → hp G (xA s.heap.size) m0 H → va_S (xA s.heap.size) s.heap H locs → lv_has ls 9 [(0, .ref b), (1, .ref l1), (2, .ref l2), (3, .ref l3), (4, .ref l4), (5, .int l5)] → W p l e room_1 s m #[Value.ref b] below meth c H locs cl9 sl9 (lw_Z below #[Value.ref b] s) (F0 m 228 ls []) := by
  obtain ⟨hx, hb, hr, hml, hown, hts, hlocks, hK, hbase, hX⟩ := id C0
  have hbA : ¬ xA s.heap.size b := Nat.not_le.mpr hbl
  intro l1 l2 l3 l4 l5 m0 H locs ls cl9 sl9 kc ks hcc hss h hh hS hl
  unfold wp_L_law_228 at h
  refine lv_aload_n hx hb dL_law_228 rfl (lv_at hl 1 rfl) ?_
  refine lv_aload_n hx hb dL_law_229 rfl (lv_at hl 0 rfl) ?_
  refine lv_iload hx hb dL_law_230 (lv_at hl 5 rfl) ?_
  refine lv_iconst (v := 1) hx hb dL_law_232 (by decide) ?_
  refine lv_iadd hx hb dL_law_233 ?_
  obtain ⟨g76, h⟩ := h
  refine va_sld hx hb hXs hbl hbA hS g76 dL_law_234 ?_
  refine lv_aload_n hx hb dL_law_235 rfl (lv_at hl 0 rfl) ?_
  refine lv_iload hx hb dL_law_236 (lv_at hl 5 rfl) ?_
  refine lv_iconst (v := 2) hx hb dL_law_238 (by decide) ?_
  refine lv_iadd hx hb dL_law_239 ?_
  obtain ⟨g77, h⟩ := h
  refine va_sld hx hb hXs hbl hbA hS g77 dL_law_240 ?_
  refine lv_aload_n hx hb dL_law_241 rfl (lv_at hl 0 rfl) ?_
  refine lv_iload hx hb dL_law_242 (lv_at hl 5 rfl) ?_
  refine lv_iconst (v := 3) hx hb dL_law_244 (by decide) ?_
  refine lv_iadd hx hb dL_law_245 ?_
  obtain ⟨g78, h⟩ := h
  refine va_sld hx hb hXs hbl hbA hS g78 dL_law_246 ?_
  refine lv_aload_n hx hb dL_law_247 rfl (lv_at hl 3 rfl) ?_
  obtain ⟨c79, s80, g81, g82, h⟩ := h
  refine xt_i (vx_runSX (As := [.ref l1, .int (xs (l5 + (1 : Int32)).toNatClampNeg), .int (xs (l5 + (2 : Int32)).toNatClampNeg), .int (xs (l5 + (3 : Int32)).toNatClampNeg), .ref l3]) (rest := []) ⟨hx, hb, hml, hown, hts⟩ (mt_L_put l hl9 G (s.heap.size) h) (vx_cwSW 5 hts gL_law_L_put rfl rfl rfl (by decide +kernel) ⟨Nat.le_of_ble_eq_true rfl, Nat.le_of_ble_eq_true rfl⟩) (xp_S hbase hh hK hX hS) rfl rfl hl.1 rfl (lv_room (Nat.le_of_ble_eq_true rfl)) dL_law_248 ⟨by show _ ≤ 601024; omega, by show _ ≤ 7293034; omega⟩) hS (fun k9 m9 H locs q9 ce h hh hS hc9 hv9 hcl9 => h.elim) (fun r83 m84 H locs h hh hS => ?_)
  obtain ⟨kc85, ekc85⟩ : ∃ z : Nat, z = kc - c79 := ⟨_, rfl⟩
  obtain ⟨ks86, eks86⟩ : ∃ z : Nat, z = ks - s80 := ⟨_, rfl⟩
  replace h := h kc85 ks86 ekc85 eks86
  obtain ⟨cl87, ecl87⟩ : ∃ z : Nat, z = cl9 + c79 := ⟨_, rfl⟩
  obtain ⟨sl88, esl88⟩ : ∃ z : Nat, z = sl9 + s80 := ⟨_, rfl⟩
  refine W_cs ecl87 esl88 ?_
  have hcc : cl87 + kc85 ≤ 601024 := by omega
  have hss : sl88 + ks86 ≤ 7293034 := by omega
  refine lv_istore (lv' := [(6, .int r83), (0, .ref b), (1, .ref l1), (2, .ref l2), (3, .ref l3), (4, .ref l4), (5, .int l5)]) hx hb dL_law_251 hl (by decide) rfl (fun ls hl => ?_)
  refine lv_aload_n hx hb dL_law_253 rfl (lv_at hl 3 rfl) ?_
  refine lv_aload_n hx hb dL_law_254 rfl (lv_at hl 1 rfl) ?_
  refine lv_iload hx hb dL_law_255 (lv_at hl 6 rfl) ?_
  refine lv_iconst (v := 1) hx hb dL_law_257 (by decide) ?_
  refine lv_iadd hx hb dL_law_258 ?_
  obtain ⟨g89, h⟩ := h
  refine va_sld hx hb hXs hbl hbA hS g89 dL_law_259 ?_
  refine lv_aload_n hx hb dL_law_260 rfl (lv_at hl 1 rfl) ?_
  refine lv_iload hx hb dL_law_261 (lv_at hl 6 rfl) ?_
  refine lv_iconst (v := 2) hx hb dL_law_263 (by decide) ?_
  refine lv_iadd hx hb dL_law_264 ?_
  obtain ⟨g90, h⟩ := h
  refine va_sld hx hb hXs hbl hbA hS g90 dL_law_265 ?_
  refine lv_aload_n hx hb dL_law_266 rfl (lv_at hl 1 rfl) ?_
  refine lv_iload hx hb dL_law_267 (lv_at hl 6 rfl) ?_
  refine lv_iconst (v := 3) hx hb dL_law_269 (by decide) ?_
  refine lv_iadd hx hb dL_law_270 ?_
  obtain ⟨g91, h⟩ := h
  refine va_sld hx hb hXs hbl hbA hS g91 dL_law_271 ?_
  obtain ⟨g92, h⟩ := h
  refine xc_i (va_runV (As := [.int (xs (l5 + (1 : Int32)).toNatClampNeg), .int (xs (l5 + (2 : Int32)).toNatClampNeg), .int (xs (l5 + (3 : Int32)).toNatClampNeg)]) (rest := []) ⟨hx, hb, hml, hown, hts⟩ (mt_X6_put l G (s.heap.size) h) (cwV 3 hts gL_law_X6_put rfl rfl rfl (by decide +kernel) ⟨Nat.le_of_ble_eq_true rfl, Nat.le_of_ble_eq_true rfl⟩) (xp_V hbase hh hK hX hS (ci := 6) g92 (by decide) rfl) rfl rfl hl.1 rfl (lv_room (Nat.le_of_ble_eq_true rfl)) dL_law_272 ⟨by show _ ≤ 601024; omega, by show _ ≤ 7293034; omega⟩) hS (fun r93 m94 H locs h hh hS => ?_)
  refine lv_istore (lv' := [(7, .int r93), (6, .int r83), (0, .ref b), (1, .ref l1), (2, .ref l2), (3, .ref l3), (4, .ref l4), (5, .int l5)]) hx hb dL_law_275 hl (by decide) rfl (fun ls hl => ?_)
  refine lv_aload_n hx hb dL_law_277 rfl (lv_at hl 4 rfl) ?_
  obtain ⟨g95, h⟩ := h
  refine xc_i (va_runV (As := []) (rest := []) ⟨hx, hb, hml, hown, hts⟩ (mt_X6_thrown l G (s.heap.size) h) (cwV 0 hts gL_law_X6_thrown rfl rfl rfl (by decide +kernel) ⟨Nat.le_of_ble_eq_true rfl, Nat.le_of_ble_eq_true rfl⟩) (xp_V hbase hh hK hX hS (ci := 6) g95 (by decide) rfl) rfl rfl hl.1 rfl (lv_room (Nat.le_of_ble_eq_true rfl)) dL_law_278 ⟨by show _ ≤ 601024; omega, by show _ ≤ 7293034; omega⟩) hS (fun r96 m97 H locs h hh hS => ?_)
  refine lv_iload hx hb dL_law_281 (lv_at hl 1 rfl) ?_
  refine lv_icmp_eq (tgt := 288) hx hb dL_law_283 (by decide) (fun c98 => ?_) (fun c98 => ?_)
  · replace h := h.1 c98
    refine lv_iload hx hb dL_law_288 (lv_at hl 1 rfl) ?_
    refine lv_if_ne (tgt := 312) hx hb dL_law_290 (by decide) (fun c99 => ?_) (fun c99 => ?_)
    · replace h := h.1 c99
      refine lv_goto (tgt := 2255) hx hb dL_law_312 (by decide) ?_
      obtain ⟨x100, ex100⟩ : ∃ y : Int32, y = l5 + 7 := ⟨_, rfl⟩
      replace h := h x100 ex100
      refine lv_iinc (v := x100) (lv' := [(5, .int x100), (7, .int r93), (6, .int r83), (0, .ref b), (1, .ref l1), (2, .ref l2), (3, .ref l3), (4, .ref l4)]) hx hb dL_law_2255 hl (k := 7) rfl (by rw [ex100]; rfl) (by decide) rfl (fun ls hl => ?_)
      refine lv_goto (tgt := 28) hx hb dL_law_2258 (by decide) ?_
      exact hK9 _ _ _ _ _ _ _ _ _ cl87 sl88 kc85 ks86 hcc hss h hh hS (lv_sub hl [3, 4, 5, 6, 7, 0] rfl)
    · replace h := h.2 c99
      refine lv_aload_n hx hb dL_law_293 rfl (lv_at hl 5 rfl) ?_
      refine lv_iconst (v := 0) hx hb dL_law_294 (by decide) ?_
      obtain ⟨g101, h⟩ := h
      obtain ⟨g102, h⟩ := h
      refine xr_lald hx hb hK hh g101 g102 dL_law_295 ?_
      refine lv_iload hx hb dL_law_296 (lv_at hl 0 rfl) ?_
      refine lv_if_eq (tgt := 305) hx hb dL_law_298 (by decide) (fun c103 => ?_) (fun c103 => ?_)
      · replace h := h.1 c103
        refine lv_lconst (v := 0) hx hb dL_law_305 (by decide) ?_
        refine W.lcmp hx hb dL_law_306 ?_
        refine lv_if_eq (tgt := 312) hx hb dL_law_307 (by decide) (fun c104 => ?_) (fun c104 => ?_)
        · replace h := h.1 c104
          refine lv_goto (tgt := 2255) hx hb dL_law_312 (by decide) ?_
          obtain ⟨x105, ex105⟩ : ∃ y : Int32, y = l5 + 7 := ⟨_, rfl⟩
          replace h := h x105 ex105
          refine lv_iinc (v := x105) (lv' := [(5, .int x105), (7, .int r93), (6, .int r83), (0, .ref b), (1, .ref l1), (2, .ref l2), (3, .ref l3), (4, .ref l4)]) hx hb dL_law_2255 hl (k := 7) rfl (by rw [ex105]; rfl) (by decide) rfl (fun ls hl => ?_)
          refine lv_goto (tgt := 28) hx hb dL_law_2258 (by decide) ?_
          exact hK9 _ _ _ _ _ _ _ _ _ cl87 sl88 kc85 ks86 hcc hss h hh hS (lv_sub hl [3, 4, 5, 6, 7, 0] rfl)
        · replace h := h.2 c104
          refine lv_iconst (v := 0) hx hb dL_law_310 (by decide) ?_
          exact h.elim
      · replace h := h.2 c103
        refine lv_lconst (v := 1) hx hb dL_law_301 (by decide) ?_
        refine lv_goto (tgt := 306) hx hb dL_law_302 (by decide) ?_
        refine W.lcmp hx hb dL_law_306 ?_
        refine lv_if_eq (tgt := 312) hx hb dL_law_307 (by decide) (fun c106 => ?_) (fun c106 => ?_)
        · replace h := h.1 c106
          refine lv_goto (tgt := 2255) hx hb dL_law_312 (by decide) ?_
          obtain ⟨x107, ex107⟩ : ∃ y : Int32, y = l5 + 7 := ⟨_, rfl⟩
          replace h := h x107 ex107
          refine lv_iinc (v := x107) (lv' := [(5, .int x107), (7, .int r93), (6, .int r83), (0, .ref b), (1, .ref l1), (2, .ref l2), (3, .ref l3), (4, .ref l4)]) hx hb dL_law_2255 hl (k := 7) rfl (by rw [ex107]; rfl) (by decide) rfl (fun ls hl => ?_)
          refine lv_goto (tgt := 28) hx hb dL_law_2258 (by decide) ?_
          exact hK9 _ _ _ _ _ _ _ _ _ cl87 sl88 kc85 ks86 hcc hss h hh hS (lv_sub hl [3, 4, 5, 6, 7, 0] rfl)
        · replace h := h.2 c106
          refine lv_iconst (v := 0) hx hb dL_law_310 (by decide) ?_
          exact h.elim
  · replace h := h.2 c98
    refine lv_iconst (v := 0) hx hb dL_law_286 (by decide) ?_
    exact h.elim

set_option maxHeartbeats 4000000 in
set_option maxRecDepth 100000 in
theorem bk_L_law_315 {b LL : Nat} {xs : Nat → Int32} {p : Program} {l : Launch} {e : Env} {s : State} {m : MethodId} {below : List Frame} {meth : Method} {c : Code} {G : GG} (C0 : BC p s m #[Value.ref b] meth c G s.heap.size RL cL_law 9 ret wsL_law) (hl9 : l.stackTraces = false) (hXs : va_X b LL xs s s.heap) (hbl : b < s.heap.size)  {K : Nat → Nat → Nat → Nat → Int32 → MM → Nat → Nat → Prop} (hK9 : ∀ (l1 : Nat) (l2 : Nat) (l3 : Nat) (l4 : Nat) (l5 : Int32) (m0 : MM) (H : Heap) (locs : List Loc) (ls : Array Slot) (cl9 sl9 kc ks : Nat) (hcc : cl9 + kc ≤ 601024) (hss : sl9 + ks ≤ 7293034), K l1 l2 l3 l4 l5 m0 kc ks → hp G (xA s.heap.size) m0 H → va_S (xA s.heap.size) s.heap H locs → lv_has ls 9 [(0, .ref b), (1, .ref l1), (2, .ref l2), (3, .ref l3), (4, .ref l4), (5, .int l5)] → W p l e room_1 s m #[Value.ref b] below meth c H locs cl9 sl9 (lw_Z below #[Value.ref b] s) (F0 m 28 ls [])) : ∀ (l1 : Nat) (l2 : Nat) (l3 : Nat) (l4 : Nat) (l5 : Int32) (m0 : MM) (H : Heap) (locs : List Loc) (ls : Array Slot) (cl9 sl9 kc ks : Nat) (hcc : cl9 + kc ≤ 601024) (hss : sl9 + ks ≤ 7293034), wp_L_law_315 xs LL K l1 l2 l3 l4 l5 m0 kc ks → hp G (xA s.heap.size) m0 H → va_S (xA s.heap.size) s.heap H locs → lv_has ls 9 [(0, .ref b), (1, .ref l1), (2, .ref l2), (3, .ref l3), (4, .ref l4), (5, .int l5)] → W p l e room_1 s m #[Value.ref b] below meth c H locs cl9 sl9 (lw_Z below #[Value.ref b] s) (F0 m 315 ls []) := by
  obtain ⟨hx, hb, hr, hml, hown, hts, hlocks, hK, hbase, hX⟩ := id C0
  have hbA : ¬ xA s.heap.size b := Nat.not_le.mpr hbl
  intro l1 l2 l3 l4 l5 m0 H locs ls cl9 sl9 kc ks hcc hss h hh hS hl
  unfold wp_L_law_315 at h
  refine lv_aload_n hx hb dL_law_315 rfl (lv_at hl 1 rfl) ?_
  refine lv_aload_n hx hb dL_law_316 rfl (lv_at hl 0 rfl) ?_
  refine lv_iload hx hb dL_law_317 (lv_at hl 5 rfl) ?_
  refine lv_iconst (v := 1) hx hb dL_law_319 (by decide) ?_
  refine lv_iadd hx hb dL_law_320 ?_
  obtain ⟨g108, h⟩ := h
  refine va_sld hx hb hXs hbl hbA hS g108 dL_law_321 ?_
  refine lv_aload_n hx hb dL_law_322 rfl (lv_at hl 0 rfl) ?_
  refine lv_iload hx hb dL_law_323 (lv_at hl 5 rfl) ?_
  refine lv_iconst (v := 2) hx hb dL_law_325 (by decide) ?_
  refine lv_iadd hx hb dL_law_326 ?_
  obtain ⟨g109, h⟩ := h
  refine va_sld hx hb hXs hbl hbA hS g109 dL_law_327 ?_
  refine lv_aload_n hx hb dL_law_328 rfl (lv_at hl 0 rfl) ?_
  refine lv_iload hx hb dL_law_329 (lv_at hl 5 rfl) ?_
  refine lv_iconst (v := 3) hx hb dL_law_331 (by decide) ?_
  refine lv_iadd hx hb dL_law_332 ?_
  obtain ⟨g110, h⟩ := h
  refine va_sld hx hb hXs hbl hbA hS g110 dL_law_333 ?_
  refine lv_aload_n hx hb dL_law_334 rfl (lv_at hl 0 rfl) ?_
  refine lv_iload hx hb dL_law_335 (lv_at hl 5 rfl) ?_
  refine lv_iconst (v := 4) hx hb dL_law_337 (by decide) ?_
  refine lv_iadd hx hb dL_law_338 ?_
  obtain ⟨g111, h⟩ := h
  refine va_sld hx hb hXs hbl hbA hS g111 dL_law_339 ?_
  refine lv_aload_n hx hb dL_law_340 rfl (lv_at hl 0 rfl) ?_
  refine lv_iload hx hb dL_law_341 (lv_at hl 5 rfl) ?_
  refine lv_iconst (v := 5) hx hb dL_law_343 (by decide) ?_
  refine lv_iadd hx hb dL_law_344 ?_
  obtain ⟨g112, h⟩ := h
  refine va_sld hx hb hXs hbl hbA hS g112 dL_law_345 ?_
  refine lv_aload_n hx hb dL_law_346 rfl (lv_at hl 0 rfl) ?_
  refine lv_iload hx hb dL_law_347 (lv_at hl 5 rfl) ?_
  refine lv_bipush (v := 6) hx hb dL_law_349 (by decide) ?_
  refine lv_iadd hx hb dL_law_351 ?_
  obtain ⟨g113, h⟩ := h
  refine va_sld hx hb hXs hbl hbA hS g113 dL_law_352 ?_
  refine lv_aload_n hx hb dL_law_353 rfl (lv_at hl 3 rfl) ?_
  obtain ⟨c114, s115, g116, g117, h⟩ := h
  refine xt_i (vx_runSX (As := [.ref l1, .int (xs (l5 + (1 : Int32)).toNatClampNeg), .int (xs (l5 + (2 : Int32)).toNatClampNeg), .int (xs (l5 + (3 : Int32)).toNatClampNeg), .int (xs (l5 + (4 : Int32)).toNatClampNeg), .int (xs (l5 + (5 : Int32)).toNatClampNeg), .int (xs (l5 + (6 : Int32)).toNatClampNeg), .ref l3]) (rest := []) ⟨hx, hb, hml, hown, hts⟩ (mt_L_putMany l hl9 G (s.heap.size) h) (vx_cwSW 8 hts gL_law_L_putMany rfl rfl rfl (by decide +kernel) ⟨Nat.le_of_ble_eq_true rfl, Nat.le_of_ble_eq_true rfl⟩) (xp_S hbase hh hK hX hS) rfl rfl hl.1 rfl (lv_room (Nat.le_of_ble_eq_true rfl)) dL_law_354 ⟨by show _ ≤ 601024; omega, by show _ ≤ 7293034; omega⟩) hS (fun k9 m9 H locs q9 ce h hh hS hc9 hv9 hcl9 => h.elim) (fun r118 m119 H locs h hh hS => ?_)
  obtain ⟨kc120, ekc120⟩ : ∃ z : Nat, z = kc - c114 := ⟨_, rfl⟩
  obtain ⟨ks121, eks121⟩ : ∃ z : Nat, z = ks - s115 := ⟨_, rfl⟩
  replace h := h kc120 ks121 ekc120 eks121
  obtain ⟨cl122, ecl122⟩ : ∃ z : Nat, z = cl9 + c114 := ⟨_, rfl⟩
  obtain ⟨sl123, esl123⟩ : ∃ z : Nat, z = sl9 + s115 := ⟨_, rfl⟩
  refine W_cs ecl122 esl123 ?_
  have hcc : cl122 + kc120 ≤ 601024 := by omega
  have hss : sl123 + ks121 ≤ 7293034 := by omega
  refine lv_istore (lv' := [(6, .int r118), (0, .ref b), (1, .ref l1), (2, .ref l2), (3, .ref l3), (4, .ref l4), (5, .int l5)]) hx hb dL_law_357 hl (by decide) rfl (fun ls hl => ?_)
  refine lv_aload_n hx hb dL_law_359 rfl (lv_at hl 3 rfl) ?_
  refine lv_aload_n hx hb dL_law_360 rfl (lv_at hl 1 rfl) ?_
  refine lv_iload hx hb dL_law_361 (lv_at hl 6 rfl) ?_
  refine lv_iconst (v := 1) hx hb dL_law_363 (by decide) ?_
  refine lv_iadd hx hb dL_law_364 ?_
  obtain ⟨g124, h⟩ := h
  refine va_sld hx hb hXs hbl hbA hS g124 dL_law_365 ?_
  refine lv_aload_n hx hb dL_law_366 rfl (lv_at hl 1 rfl) ?_
  refine lv_iload hx hb dL_law_367 (lv_at hl 6 rfl) ?_
  refine lv_iconst (v := 2) hx hb dL_law_369 (by decide) ?_
  refine lv_iadd hx hb dL_law_370 ?_
  obtain ⟨g125, h⟩ := h
  refine va_sld hx hb hXs hbl hbA hS g125 dL_law_371 ?_
  refine lv_aload_n hx hb dL_law_372 rfl (lv_at hl 1 rfl) ?_
  refine lv_iload hx hb dL_law_373 (lv_at hl 6 rfl) ?_
  refine lv_iconst (v := 3) hx hb dL_law_375 (by decide) ?_
  refine lv_iadd hx hb dL_law_376 ?_
  obtain ⟨g126, h⟩ := h
  refine va_sld hx hb hXs hbl hbA hS g126 dL_law_377 ?_
  refine lv_aload_n hx hb dL_law_378 rfl (lv_at hl 1 rfl) ?_
  refine lv_iload hx hb dL_law_379 (lv_at hl 6 rfl) ?_
  refine lv_iconst (v := 4) hx hb dL_law_381 (by decide) ?_
  refine lv_iadd hx hb dL_law_382 ?_
  obtain ⟨g127, h⟩ := h
  refine va_sld hx hb hXs hbl hbA hS g127 dL_law_383 ?_
  refine lv_aload_n hx hb dL_law_384 rfl (lv_at hl 1 rfl) ?_
  refine lv_iload hx hb dL_law_385 (lv_at hl 6 rfl) ?_
  refine lv_iconst (v := 5) hx hb dL_law_387 (by decide) ?_
  refine lv_iadd hx hb dL_law_388 ?_
  obtain ⟨g128, h⟩ := h
  refine va_sld hx hb hXs hbl hbA hS g128 dL_law_389 ?_
  refine lv_aload_n hx hb dL_law_390 rfl (lv_at hl 1 rfl) ?_
  refine lv_iload hx hb dL_law_391 (lv_at hl 6 rfl) ?_
  refine lv_bipush (v := 6) hx hb dL_law_393 (by decide) ?_
  refine lv_iadd hx hb dL_law_395 ?_
  obtain ⟨g129, h⟩ := h
  refine va_sld hx hb hXs hbl hbA hS g129 dL_law_396 ?_
  obtain ⟨g130, h⟩ := h
  refine xc_i (va_runV (As := [.int (xs (l5 + (1 : Int32)).toNatClampNeg), .int (xs (l5 + (2 : Int32)).toNatClampNeg), .int (xs (l5 + (3 : Int32)).toNatClampNeg), .int (xs (l5 + (4 : Int32)).toNatClampNeg), .int (xs (l5 + (5 : Int32)).toNatClampNeg), .int (xs (l5 + (6 : Int32)).toNatClampNeg)]) (rest := []) ⟨hx, hb, hml, hown, hts⟩ (mt_X6_putMany l G (s.heap.size) h) (cwV 6 hts gL_law_X6_putMany rfl rfl rfl (by decide +kernel) ⟨Nat.le_of_ble_eq_true rfl, Nat.le_of_ble_eq_true rfl⟩) (xp_V hbase hh hK hX hS (ci := 6) g130 (by decide) rfl) rfl rfl hl.1 rfl (lv_room (Nat.le_of_ble_eq_true rfl)) dL_law_397 ⟨by show _ ≤ 601024; omega, by show _ ≤ 7293034; omega⟩) hS (fun r131 m132 H locs h hh hS => ?_)
  refine lv_istore (lv' := [(7, .int r131), (6, .int r118), (0, .ref b), (1, .ref l1), (2, .ref l2), (3, .ref l3), (4, .ref l4), (5, .int l5)]) hx hb dL_law_400 hl (by decide) rfl (fun ls hl => ?_)
  refine lv_aload_n hx hb dL_law_402 rfl (lv_at hl 4 rfl) ?_
  obtain ⟨g133, h⟩ := h
  refine xc_i (va_runV (As := []) (rest := []) ⟨hx, hb, hml, hown, hts⟩ (mt_X6_thrown l G (s.heap.size) h) (cwV 0 hts gL_law_X6_thrown rfl rfl rfl (by decide +kernel) ⟨Nat.le_of_ble_eq_true rfl, Nat.le_of_ble_eq_true rfl⟩) (xp_V hbase hh hK hX hS (ci := 6) g133 (by decide) rfl) rfl rfl hl.1 rfl (lv_room (Nat.le_of_ble_eq_true rfl)) dL_law_403 ⟨by show _ ≤ 601024; omega, by show _ ≤ 7293034; omega⟩) hS (fun r134 m135 H locs h hh hS => ?_)
  refine lv_iload hx hb dL_law_406 (lv_at hl 1 rfl) ?_
  refine lv_icmp_eq (tgt := 413) hx hb dL_law_408 (by decide) (fun c136 => ?_) (fun c136 => ?_)
  · replace h := h.1 c136
    refine lv_iload hx hb dL_law_413 (lv_at hl 1 rfl) ?_
    refine lv_if_ne (tgt := 430) hx hb dL_law_415 (by decide) (fun c137 => ?_) (fun c137 => ?_)
    · replace h := h.1 c137
      refine lv_goto (tgt := 2255) hx hb dL_law_430 (by decide) ?_
      obtain ⟨x138, ex138⟩ : ∃ y : Int32, y = l5 + 7 := ⟨_, rfl⟩
      replace h := h x138 ex138
      refine lv_iinc (v := x138) (lv' := [(5, .int x138), (7, .int r131), (6, .int r118), (0, .ref b), (1, .ref l1), (2, .ref l2), (3, .ref l3), (4, .ref l4)]) hx hb dL_law_2255 hl (k := 7) rfl (by rw [ex138]; rfl) (by decide) rfl (fun ls hl => ?_)
      refine lv_goto (tgt := 28) hx hb dL_law_2258 (by decide) ?_
      exact hK9 _ _ _ _ _ _ _ _ _ cl122 sl123 kc120 ks121 hcc hss h hh hS (lv_sub hl [3, 4, 5, 6, 7, 0] rfl)
    · replace h := h.2 c137
      refine lv_aload_n hx hb dL_law_418 rfl (lv_at hl 5 rfl) ?_
      refine lv_iconst (v := 0) hx hb dL_law_419 (by decide) ?_
      obtain ⟨g139, h⟩ := h
      obtain ⟨g140, h⟩ := h
      refine xr_lald hx hb hK hh g139 g140 dL_law_420 ?_
      refine lv_iload hx hb dL_law_421 (lv_at hl 0 rfl) ?_
      refine lv_i2l hx hb dL_law_423 rfl ?_
      refine W.lcmp hx hb dL_law_424 ?_
      refine lv_if_eq (tgt := 430) hx hb dL_law_425 (by decide) (fun c141 => ?_) (fun c141 => ?_)
      · replace h := h.1 c141
        refine lv_goto (tgt := 2255) hx hb dL_law_430 (by decide) ?_
        obtain ⟨x142, ex142⟩ : ∃ y : Int32, y = l5 + 7 := ⟨_, rfl⟩
        replace h := h x142 ex142
        refine lv_iinc (v := x142) (lv' := [(5, .int x142), (7, .int r131), (6, .int r118), (0, .ref b), (1, .ref l1), (2, .ref l2), (3, .ref l3), (4, .ref l4)]) hx hb dL_law_2255 hl (k := 7) rfl (by rw [ex142]; rfl) (by decide) rfl (fun ls hl => ?_)
        refine lv_goto (tgt := 28) hx hb dL_law_2258 (by decide) ?_
        exact hK9 _ _ _ _ _ _ _ _ _ cl122 sl123 kc120 ks121 hcc hss h hh hS (lv_sub hl [3, 4, 5, 6, 7, 0] rfl)
      · replace h := h.2 c141
        refine lv_iconst (v := 0) hx hb dL_law_428 (by decide) ?_
        exact h.elim
  · replace h := h.2 c136
    refine lv_iconst (v := 0) hx hb dL_law_411 (by decide) ?_
    exact h.elim

set_option maxHeartbeats 4000000 in
set_option maxRecDepth 100000 in
theorem bk_L_law_433 {b LL : Nat} {xs : Nat → Int32} {p : Program} {l : Launch} {e : Env} {s : State} {m : MethodId} {below : List Frame} {meth : Method} {c : Code} {G : GG} (C0 : BC p s m #[Value.ref b] meth c G s.heap.size RL cL_law 9 ret wsL_law) (hl9 : l.stackTraces = false) (hXs : va_X b LL xs s s.heap) (hbl : b < s.heap.size)  {K : Nat → Nat → Nat → Nat → Int32 → MM → Nat → Nat → Prop} (hK9 : ∀ (l1 : Nat) (l2 : Nat) (l3 : Nat) (l4 : Nat) (l5 : Int32) (m0 : MM) (H : Heap) (locs : List Loc) (ls : Array Slot) (cl9 sl9 kc ks : Nat) (hcc : cl9 + kc ≤ 601024) (hss : sl9 + ks ≤ 7293034), K l1 l2 l3 l4 l5 m0 kc ks → hp G (xA s.heap.size) m0 H → va_S (xA s.heap.size) s.heap H locs → lv_has ls 9 [(0, .ref b), (1, .ref l1), (2, .ref l2), (3, .ref l3), (4, .ref l4), (5, .int l5)] → W p l e room_1 s m #[Value.ref b] below meth c H locs cl9 sl9 (lw_Z below #[Value.ref b] s) (F0 m 28 ls [])) : ∀ (l1 : Nat) (l2 : Nat) (l3 : Nat) (l4 : Nat) (l5 : Int32) (m0 : MM) (H : Heap) (locs : List Loc) (ls : Array Slot) (cl9 sl9 kc ks : Nat) (hcc : cl9 + kc ≤ 601024) (hss : sl9 + ks ≤ 7293034), wp_L_law_433 xs LL K l1 l2 l3 l4 l5 m0 kc ks → hp G (xA s.heap.size) m0 H → va_S (xA s.heap.size) s.heap H locs → lv_has ls 9 [(0, .ref b), (1, .ref l1), (2, .ref l2), (3, .ref l3), (4, .ref l4), (5, .int l5)] → W p l e room_1 s m #[Value.ref b] below meth c H locs cl9 sl9 (lw_Z below #[Value.ref b] s) (F0 m 433 ls []) := by
  obtain ⟨hx, hb, hr, hml, hown, hts, hlocks, hK, hbase, hX⟩ := id C0
  have hbA : ¬ xA s.heap.size b := Nat.not_le.mpr hbl
  intro l1 l2 l3 l4 l5 m0 H locs ls cl9 sl9 kc ks hcc hss h hh hS hl
  unfold wp_L_law_433 at h
  refine lv_aload_n hx hb dL_law_433 rfl (lv_at hl 1 rfl) ?_
  refine lv_aload_n hx hb dL_law_434 rfl (lv_at hl 0 rfl) ?_
  refine lv_iload hx hb dL_law_435 (lv_at hl 5 rfl) ?_
  refine lv_iconst (v := 1) hx hb dL_law_437 (by decide) ?_
  refine lv_iadd hx hb dL_law_438 ?_
  obtain ⟨g143, h⟩ := h
  refine va_sld hx hb hXs hbl hbA hS g143 dL_law_439 ?_
  refine lv_aload_n hx hb dL_law_440 rfl (lv_at hl 0 rfl) ?_
  refine lv_iload hx hb dL_law_441 (lv_at hl 5 rfl) ?_
  refine lv_iconst (v := 2) hx hb dL_law_443 (by decide) ?_
  refine lv_iadd hx hb dL_law_444 ?_
  obtain ⟨g144, h⟩ := h
  refine va_sld hx hb hXs hbl hbA hS g144 dL_law_445 ?_
  refine lv_aload_n hx hb dL_law_446 rfl (lv_at hl 3 rfl) ?_
  obtain ⟨c145, s146, g147, g148, h⟩ := h
  refine xt_i (vx_runSX (As := [.ref l1, .int (xs (l5 + (1 : Int32)).toNatClampNeg), .int (xs (l5 + (2 : Int32)).toNatClampNeg), .ref l3]) (rest := []) ⟨hx, hb, hml, hown, hts⟩ (mt_L_erase l hl9 G (s.heap.size) h) (vx_cwSW 4 hts gL_law_L_erase rfl rfl rfl (by decide +kernel) ⟨Nat.le_of_ble_eq_true rfl, Nat.le_of_ble_eq_true rfl⟩) (xp_S hbase hh hK hX hS) rfl rfl hl.1 rfl (lv_room (Nat.le_of_ble_eq_true rfl)) dL_law_447 ⟨by show _ ≤ 601024; omega, by show _ ≤ 7293034; omega⟩) hS (fun k9 m9 H locs q9 ce h hh hS hc9 hv9 hcl9 => h.elim) (fun r149 m150 H locs h hh hS => ?_)
  obtain ⟨kc151, ekc151⟩ : ∃ z : Nat, z = kc - c145 := ⟨_, rfl⟩
  obtain ⟨ks152, eks152⟩ : ∃ z : Nat, z = ks - s146 := ⟨_, rfl⟩
  replace h := h kc151 ks152 ekc151 eks152
  obtain ⟨cl153, ecl153⟩ : ∃ z : Nat, z = cl9 + c145 := ⟨_, rfl⟩
  obtain ⟨sl154, esl154⟩ : ∃ z : Nat, z = sl9 + s146 := ⟨_, rfl⟩
  refine W_cs ecl153 esl154 ?_
  have hcc : cl153 + kc151 ≤ 601024 := by omega
  have hss : sl154 + ks152 ≤ 7293034 := by omega
  refine lv_istore (lv' := [(6, .int r149), (0, .ref b), (1, .ref l1), (2, .ref l2), (3, .ref l3), (4, .ref l4), (5, .int l5)]) hx hb dL_law_450 hl (by decide) rfl (fun ls hl => ?_)
  refine lv_aload_n hx hb dL_law_452 rfl (lv_at hl 3 rfl) ?_
  refine lv_aload_n hx hb dL_law_453 rfl (lv_at hl 1 rfl) ?_
  refine lv_iload hx hb dL_law_454 (lv_at hl 6 rfl) ?_
  refine lv_iconst (v := 1) hx hb dL_law_456 (by decide) ?_
  refine lv_iadd hx hb dL_law_457 ?_
  obtain ⟨g155, h⟩ := h
  refine va_sld hx hb hXs hbl hbA hS g155 dL_law_458 ?_
  refine lv_aload_n hx hb dL_law_459 rfl (lv_at hl 1 rfl) ?_
  refine lv_iload hx hb dL_law_460 (lv_at hl 6 rfl) ?_
  refine lv_iconst (v := 2) hx hb dL_law_462 (by decide) ?_
  refine lv_iadd hx hb dL_law_463 ?_
  obtain ⟨g156, h⟩ := h
  refine va_sld hx hb hXs hbl hbA hS g156 dL_law_464 ?_
  obtain ⟨g157, h⟩ := h
  refine xc_i (va_runV (As := [.int (xs (l5 + (1 : Int32)).toNatClampNeg), .int (xs (l5 + (2 : Int32)).toNatClampNeg)]) (rest := []) ⟨hx, hb, hml, hown, hts⟩ (mt_X6_erase l G (s.heap.size) h) (cwV 2 hts gL_law_X6_erase rfl rfl rfl (by decide +kernel) ⟨Nat.le_of_ble_eq_true rfl, Nat.le_of_ble_eq_true rfl⟩) (xp_V hbase hh hK hX hS (ci := 6) g157 (by decide) rfl) rfl rfl hl.1 rfl (lv_room (Nat.le_of_ble_eq_true rfl)) dL_law_465 ⟨by show _ ≤ 601024; omega, by show _ ≤ 7293034; omega⟩) hS (fun r158 m159 H locs h hh hS => ?_)
  refine lv_istore (lv' := [(7, .int r158), (6, .int r149), (0, .ref b), (1, .ref l1), (2, .ref l2), (3, .ref l3), (4, .ref l4), (5, .int l5)]) hx hb dL_law_468 hl (by decide) rfl (fun ls hl => ?_)
  refine lv_aload_n hx hb dL_law_470 rfl (lv_at hl 4 rfl) ?_
  obtain ⟨g160, h⟩ := h
  refine xc_i (va_runV (As := []) (rest := []) ⟨hx, hb, hml, hown, hts⟩ (mt_X6_thrown l G (s.heap.size) h) (cwV 0 hts gL_law_X6_thrown rfl rfl rfl (by decide +kernel) ⟨Nat.le_of_ble_eq_true rfl, Nat.le_of_ble_eq_true rfl⟩) (xp_V hbase hh hK hX hS (ci := 6) g160 (by decide) rfl) rfl rfl hl.1 rfl (lv_room (Nat.le_of_ble_eq_true rfl)) dL_law_471 ⟨by show _ ≤ 601024; omega, by show _ ≤ 7293034; omega⟩) hS (fun r161 m162 H locs h hh hS => ?_)
  refine lv_iload hx hb dL_law_474 (lv_at hl 1 rfl) ?_
  refine lv_icmp_eq (tgt := 481) hx hb dL_law_476 (by decide) (fun c163 => ?_) (fun c163 => ?_)
  · replace h := h.1 c163
    refine lv_iload hx hb dL_law_481 (lv_at hl 1 rfl) ?_
    refine lv_if_ne (tgt := 498) hx hb dL_law_483 (by decide) (fun c164 => ?_) (fun c164 => ?_)
    · replace h := h.1 c164
      refine lv_goto (tgt := 2255) hx hb dL_law_498 (by decide) ?_
      obtain ⟨x165, ex165⟩ : ∃ y : Int32, y = l5 + 7 := ⟨_, rfl⟩
      replace h := h x165 ex165
      refine lv_iinc (v := x165) (lv' := [(5, .int x165), (7, .int r158), (6, .int r149), (0, .ref b), (1, .ref l1), (2, .ref l2), (3, .ref l3), (4, .ref l4)]) hx hb dL_law_2255 hl (k := 7) rfl (by rw [ex165]; rfl) (by decide) rfl (fun ls hl => ?_)
      refine lv_goto (tgt := 28) hx hb dL_law_2258 (by decide) ?_
      exact hK9 _ _ _ _ _ _ _ _ _ cl153 sl154 kc151 ks152 hcc hss h hh hS (lv_sub hl [3, 4, 5, 6, 7, 0] rfl)
    · replace h := h.2 c164
      refine lv_aload_n hx hb dL_law_486 rfl (lv_at hl 5 rfl) ?_
      refine lv_iconst (v := 0) hx hb dL_law_487 (by decide) ?_
      obtain ⟨g166, h⟩ := h
      obtain ⟨g167, h⟩ := h
      refine xr_lald hx hb hK hh g166 g167 dL_law_488 ?_
      refine lv_iload hx hb dL_law_489 (lv_at hl 0 rfl) ?_
      refine lv_i2l hx hb dL_law_491 rfl ?_
      refine W.lcmp hx hb dL_law_492 ?_
      refine lv_if_eq (tgt := 498) hx hb dL_law_493 (by decide) (fun c168 => ?_) (fun c168 => ?_)
      · replace h := h.1 c168
        refine lv_goto (tgt := 2255) hx hb dL_law_498 (by decide) ?_
        obtain ⟨x169, ex169⟩ : ∃ y : Int32, y = l5 + 7 := ⟨_, rfl⟩
        replace h := h x169 ex169
        refine lv_iinc (v := x169) (lv' := [(5, .int x169), (7, .int r158), (6, .int r149), (0, .ref b), (1, .ref l1), (2, .ref l2), (3, .ref l3), (4, .ref l4)]) hx hb dL_law_2255 hl (k := 7) rfl (by rw [ex169]; rfl) (by decide) rfl (fun ls hl => ?_)
        refine lv_goto (tgt := 28) hx hb dL_law_2258 (by decide) ?_
        exact hK9 _ _ _ _ _ _ _ _ _ cl153 sl154 kc151 ks152 hcc hss h hh hS (lv_sub hl [3, 4, 5, 6, 7, 0] rfl)
      · replace h := h.2 c168
        refine lv_iconst (v := 0) hx hb dL_law_496 (by decide) ?_
        exact h.elim
  · replace h := h.2 c163
    refine lv_iconst (v := 0) hx hb dL_law_479 (by decide) ?_
    exact h.elim

set_option maxHeartbeats 4000000 in
set_option maxRecDepth 100000 in
theorem bk_L_law_501 {b LL : Nat} {xs : Nat → Int32} {p : Program} {l : Launch} {e : Env} {s : State} {m : MethodId} {below : List Frame} {meth : Method} {c : Code} {G : GG} (C0 : BC p s m #[Value.ref b] meth c G s.heap.size RL cL_law 9 ret wsL_law) (hl9 : l.stackTraces = false) (hXs : va_X b LL xs s s.heap) (hbl : b < s.heap.size)  {K : Nat → Nat → Nat → Nat → Int32 → MM → Nat → Nat → Prop} (hK9 : ∀ (l1 : Nat) (l2 : Nat) (l3 : Nat) (l4 : Nat) (l5 : Int32) (m0 : MM) (H : Heap) (locs : List Loc) (ls : Array Slot) (cl9 sl9 kc ks : Nat) (hcc : cl9 + kc ≤ 601024) (hss : sl9 + ks ≤ 7293034), K l1 l2 l3 l4 l5 m0 kc ks → hp G (xA s.heap.size) m0 H → va_S (xA s.heap.size) s.heap H locs → lv_has ls 9 [(0, .ref b), (1, .ref l1), (2, .ref l2), (3, .ref l3), (4, .ref l4), (5, .int l5)] → W p l e room_1 s m #[Value.ref b] below meth c H locs cl9 sl9 (lw_Z below #[Value.ref b] s) (F0 m 28 ls [])) : ∀ (l1 : Nat) (l2 : Nat) (l3 : Nat) (l4 : Nat) (l5 : Int32) (m0 : MM) (H : Heap) (locs : List Loc) (ls : Array Slot) (cl9 sl9 kc ks : Nat) (hcc : cl9 + kc ≤ 601024) (hss : sl9 + ks ≤ 7293034), wp_L_law_501 xs LL K l1 l2 l3 l4 l5 m0 kc ks → hp G (xA s.heap.size) m0 H → va_S (xA s.heap.size) s.heap H locs → lv_has ls 9 [(0, .ref b), (1, .ref l1), (2, .ref l2), (3, .ref l3), (4, .ref l4), (5, .int l5)] → W p l e room_1 s m #[Value.ref b] below meth c H locs cl9 sl9 (lw_Z below #[Value.ref b] s) (F0 m 501 ls []) := by
  obtain ⟨hx, hb, hr, hml, hown, hts, hlocks, hK, hbase, hX⟩ := id C0
  have hbA : ¬ xA s.heap.size b := Nat.not_le.mpr hbl
  intro l1 l2 l3 l4 l5 m0 H locs ls cl9 sl9 kc ks hcc hss h hh hS hl
  unfold wp_L_law_501 at h
  refine lv_aload_n hx hb dL_law_501 rfl (lv_at hl 1 rfl) ?_
  refine lv_aload_n hx hb dL_law_502 rfl (lv_at hl 0 rfl) ?_
  refine lv_iload hx hb dL_law_503 (lv_at hl 5 rfl) ?_
  refine lv_iconst (v := 1) hx hb dL_law_505 (by decide) ?_
  refine lv_iadd hx hb dL_law_506 ?_
  obtain ⟨g170, h⟩ := h
  refine va_sld hx hb hXs hbl hbA hS g170 dL_law_507 ?_
  refine lv_aload_n hx hb dL_law_508 rfl (lv_at hl 3 rfl) ?_
  obtain ⟨g171, g172, h⟩ := h
  refine xt_i (vx_runSX (As := [.ref l1, .int (xs (l5 + (1 : Int32)).toNatClampNeg), .ref l3]) (rest := []) ⟨hx, hb, hml, hown, hts⟩ (mt_L_advance l hl9 G (s.heap.size) h) (vx_cwSW 3 hts gL_law_L_advance rfl rfl rfl (by decide +kernel) ⟨Nat.le_of_ble_eq_true rfl, Nat.le_of_ble_eq_true rfl⟩) (xp_S hbase hh hK hX hS) rfl rfl hl.1 rfl (lv_room (Nat.le_of_ble_eq_true rfl)) dL_law_509 ⟨by show _ ≤ 601024; omega, by show _ ≤ 7293034; omega⟩) hS (fun k9 m9 H locs q9 ce h hh hS hc9 hv9 hcl9 => h.elim) (fun r173 m174 H locs h hh hS => ?_)
  obtain ⟨kc175, ekc175⟩ : ∃ z : Nat, z = kc - 1 := ⟨_, rfl⟩
  obtain ⟨ks176, eks176⟩ : ∃ z : Nat, z = ks - 6 := ⟨_, rfl⟩
  replace h := h kc175 ks176 ekc175 eks176
  obtain ⟨cl177, ecl177⟩ : ∃ z : Nat, z = cl9 + 1 := ⟨_, rfl⟩
  obtain ⟨sl178, esl178⟩ : ∃ z : Nat, z = sl9 + 6 := ⟨_, rfl⟩
  refine W_cs ecl177 esl178 ?_
  have hcc : cl177 + kc175 ≤ 601024 := by omega
  have hss : sl178 + ks176 ≤ 7293034 := by omega
  refine lv_istore (lv' := [(6, .int r173), (0, .ref b), (1, .ref l1), (2, .ref l2), (3, .ref l3), (4, .ref l4), (5, .int l5)]) hx hb dL_law_512 hl (by decide) rfl (fun ls hl => ?_)
  refine lv_aload_n hx hb dL_law_514 rfl (lv_at hl 3 rfl) ?_
  refine lv_aload_n hx hb dL_law_515 rfl (lv_at hl 1 rfl) ?_
  refine lv_iload hx hb dL_law_516 (lv_at hl 6 rfl) ?_
  refine lv_iconst (v := 1) hx hb dL_law_518 (by decide) ?_
  refine lv_iadd hx hb dL_law_519 ?_
  obtain ⟨g179, h⟩ := h
  refine va_sld hx hb hXs hbl hbA hS g179 dL_law_520 ?_
  obtain ⟨g180, h⟩ := h
  refine xc_i (va_runV (As := [.int (xs (l5 + (1 : Int32)).toNatClampNeg)]) (rest := []) ⟨hx, hb, hml, hown, hts⟩ (mt_X6_advance l G (s.heap.size) h) (cwV 1 hts gL_law_X6_advance rfl rfl rfl (by decide +kernel) ⟨Nat.le_of_ble_eq_true rfl, Nat.le_of_ble_eq_true rfl⟩) (xp_V hbase hh hK hX hS (ci := 6) g180 (by decide) rfl) rfl rfl hl.1 rfl (lv_room (Nat.le_of_ble_eq_true rfl)) dL_law_521 ⟨by show _ ≤ 601024; omega, by show _ ≤ 7293034; omega⟩) hS (fun r181 m182 H locs h hh hS => ?_)
  refine lv_istore (lv' := [(7, .int r181), (6, .int r173), (0, .ref b), (1, .ref l1), (2, .ref l2), (3, .ref l3), (4, .ref l4), (5, .int l5)]) hx hb dL_law_524 hl (by decide) rfl (fun ls hl => ?_)
  refine lv_aload_n hx hb dL_law_526 rfl (lv_at hl 4 rfl) ?_
  obtain ⟨g183, h⟩ := h
  refine xc_i (va_runV (As := []) (rest := []) ⟨hx, hb, hml, hown, hts⟩ (mt_X6_thrown l G (s.heap.size) h) (cwV 0 hts gL_law_X6_thrown rfl rfl rfl (by decide +kernel) ⟨Nat.le_of_ble_eq_true rfl, Nat.le_of_ble_eq_true rfl⟩) (xp_V hbase hh hK hX hS (ci := 6) g183 (by decide) rfl) rfl rfl hl.1 rfl (lv_room (Nat.le_of_ble_eq_true rfl)) dL_law_527 ⟨by show _ ≤ 601024; omega, by show _ ≤ 7293034; omega⟩) hS (fun r184 m185 H locs h hh hS => ?_)
  refine lv_iload hx hb dL_law_530 (lv_at hl 1 rfl) ?_
  refine lv_icmp_eq (tgt := 537) hx hb dL_law_532 (by decide) (fun c186 => ?_) (fun c186 => ?_)
  · replace h := h.1 c186
    refine lv_iload hx hb dL_law_537 (lv_at hl 1 rfl) ?_
    refine lv_if_ne (tgt := 554) hx hb dL_law_539 (by decide) (fun c187 => ?_) (fun c187 => ?_)
    · replace h := h.1 c187
      refine lv_goto (tgt := 2255) hx hb dL_law_554 (by decide) ?_
      obtain ⟨x188, ex188⟩ : ∃ y : Int32, y = l5 + 7 := ⟨_, rfl⟩
      replace h := h x188 ex188
      refine lv_iinc (v := x188) (lv' := [(5, .int x188), (7, .int r181), (6, .int r173), (0, .ref b), (1, .ref l1), (2, .ref l2), (3, .ref l3), (4, .ref l4)]) hx hb dL_law_2255 hl (k := 7) rfl (by rw [ex188]; rfl) (by decide) rfl (fun ls hl => ?_)
      refine lv_goto (tgt := 28) hx hb dL_law_2258 (by decide) ?_
      exact hK9 _ _ _ _ _ _ _ _ _ cl177 sl178 kc175 ks176 hcc hss h hh hS (lv_sub hl [3, 4, 5, 6, 7, 0] rfl)
    · replace h := h.2 c187
      refine lv_aload_n hx hb dL_law_542 rfl (lv_at hl 5 rfl) ?_
      refine lv_iconst (v := 0) hx hb dL_law_543 (by decide) ?_
      obtain ⟨g189, h⟩ := h
      obtain ⟨g190, h⟩ := h
      refine xr_lald hx hb hK hh g189 g190 dL_law_544 ?_
      refine lv_iload hx hb dL_law_545 (lv_at hl 0 rfl) ?_
      refine lv_i2l hx hb dL_law_547 rfl ?_
      refine W.lcmp hx hb dL_law_548 ?_
      refine lv_if_eq (tgt := 554) hx hb dL_law_549 (by decide) (fun c191 => ?_) (fun c191 => ?_)
      · replace h := h.1 c191
        refine lv_goto (tgt := 2255) hx hb dL_law_554 (by decide) ?_
        obtain ⟨x192, ex192⟩ : ∃ y : Int32, y = l5 + 7 := ⟨_, rfl⟩
        replace h := h x192 ex192
        refine lv_iinc (v := x192) (lv' := [(5, .int x192), (7, .int r181), (6, .int r173), (0, .ref b), (1, .ref l1), (2, .ref l2), (3, .ref l3), (4, .ref l4)]) hx hb dL_law_2255 hl (k := 7) rfl (by rw [ex192]; rfl) (by decide) rfl (fun ls hl => ?_)
        refine lv_goto (tgt := 28) hx hb dL_law_2258 (by decide) ?_
        exact hK9 _ _ _ _ _ _ _ _ _ cl177 sl178 kc175 ks176 hcc hss h hh hS (lv_sub hl [3, 4, 5, 6, 7, 0] rfl)
      · replace h := h.2 c191
        refine lv_iconst (v := 0) hx hb dL_law_552 (by decide) ?_
        exact h.elim
  · replace h := h.2 c186
    refine lv_iconst (v := 0) hx hb dL_law_535 (by decide) ?_
    exact h.elim

set_option maxHeartbeats 4000000 in
set_option maxRecDepth 100000 in
theorem bk_L_law_557 {b LL : Nat} {xs : Nat → Int32} {p : Program} {l : Launch} {e : Env} {s : State} {m : MethodId} {below : List Frame} {meth : Method} {c : Code} {G : GG} (C0 : BC p s m #[Value.ref b] meth c G s.heap.size RL cL_law 9 ret wsL_law) (hl9 : l.stackTraces = false) (hXs : va_X b LL xs s s.heap) (hbl : b < s.heap.size)  {K : Nat → Nat → Nat → Nat → Int32 → MM → Nat → Nat → Prop} (hK9 : ∀ (l1 : Nat) (l2 : Nat) (l3 : Nat) (l4 : Nat) (l5 : Int32) (m0 : MM) (H : Heap) (locs : List Loc) (ls : Array Slot) (cl9 sl9 kc ks : Nat) (hcc : cl9 + kc ≤ 601024) (hss : sl9 + ks ≤ 7293034), K l1 l2 l3 l4 l5 m0 kc ks → hp G (xA s.heap.size) m0 H → va_S (xA s.heap.size) s.heap H locs → lv_has ls 9 [(0, .ref b), (1, .ref l1), (2, .ref l2), (3, .ref l3), (4, .ref l4), (5, .int l5)] → W p l e room_1 s m #[Value.ref b] below meth c H locs cl9 sl9 (lw_Z below #[Value.ref b] s) (F0 m 28 ls [])) : ∀ (l1 : Nat) (l2 : Nat) (l3 : Nat) (l4 : Nat) (l5 : Int32) (m0 : MM) (H : Heap) (locs : List Loc) (ls : Array Slot) (cl9 sl9 kc ks : Nat) (hcc : cl9 + kc ≤ 601024) (hss : sl9 + ks ≤ 7293034), wp_L_law_557 xs LL K l1 l2 l3 l4 l5 m0 kc ks → hp G (xA s.heap.size) m0 H → va_S (xA s.heap.size) s.heap H locs → lv_has ls 9 [(0, .ref b), (1, .ref l1), (2, .ref l2), (3, .ref l3), (4, .ref l4), (5, .int l5)] → W p l e room_1 s m #[Value.ref b] below meth c H locs cl9 sl9 (lw_Z below #[Value.ref b] s) (F0 m 557 ls []) := by
  obtain ⟨hx, hb, hr, hml, hown, hts, hlocks, hK, hbase, hX⟩ := id C0
  have hbA : ¬ xA s.heap.size b := Nat.not_le.mpr hbl
  intro l1 l2 l3 l4 l5 m0 H locs ls cl9 sl9 kc ks hcc hss h hh hS hl
  unfold wp_L_law_557 at h
  refine lv_aload_n hx hb dL_law_557 rfl (lv_at hl 1 rfl) ?_
  refine lv_aload_n hx hb dL_law_558 rfl (lv_at hl 0 rfl) ?_
  refine lv_iload hx hb dL_law_559 (lv_at hl 5 rfl) ?_
  refine lv_iconst (v := 1) hx hb dL_law_561 (by decide) ?_
  refine lv_iadd hx hb dL_law_562 ?_
  obtain ⟨g193, h⟩ := h
  refine va_sld hx hb hXs hbl hbA hS g193 dL_law_563 ?_
  refine lv_aload_n hx hb dL_law_564 rfl (lv_at hl 0 rfl) ?_
  refine lv_iload hx hb dL_law_565 (lv_at hl 5 rfl) ?_
  refine lv_iconst (v := 2) hx hb dL_law_567 (by decide) ?_
  refine lv_iadd hx hb dL_law_568 ?_
  obtain ⟨g194, h⟩ := h
  refine va_sld hx hb hXs hbl hbA hS g194 dL_law_569 ?_
  refine lv_aload_n hx hb dL_law_570 rfl (lv_at hl 3 rfl) ?_
  obtain ⟨g195, g196, h⟩ := h
  refine xt_i (vx_runSX (As := [.ref l1, .int (xs (l5 + (1 : Int32)).toNatClampNeg), .int (xs (l5 + (2 : Int32)).toNatClampNeg), .ref l3]) (rest := []) ⟨hx, hb, hml, hown, hts⟩ (mt_L_setRetention l hl9 G (s.heap.size) h) (vx_cwSW 4 hts gL_law_L_setRetention rfl rfl rfl (by decide +kernel) ⟨Nat.le_of_ble_eq_true rfl, Nat.le_of_ble_eq_true rfl⟩) (xp_S hbase hh hK hX hS) rfl rfl hl.1 rfl (lv_room (Nat.le_of_ble_eq_true rfl)) dL_law_571 ⟨by show _ ≤ 601024; omega, by show _ ≤ 7293034; omega⟩) hS (fun k9 m9 H locs q9 ce h hh hS hc9 hv9 hcl9 => h.elim) (fun r197 m198 H locs h hh hS => ?_)
  obtain ⟨kc199, ekc199⟩ : ∃ z : Nat, z = kc - 2 := ⟨_, rfl⟩
  obtain ⟨ks200, eks200⟩ : ∃ z : Nat, z = ks - 12 := ⟨_, rfl⟩
  replace h := h kc199 ks200 ekc199 eks200
  obtain ⟨cl201, ecl201⟩ : ∃ z : Nat, z = cl9 + 2 := ⟨_, rfl⟩
  obtain ⟨sl202, esl202⟩ : ∃ z : Nat, z = sl9 + 12 := ⟨_, rfl⟩
  refine W_cs ecl201 esl202 ?_
  have hcc : cl201 + kc199 ≤ 601024 := by omega
  have hss : sl202 + ks200 ≤ 7293034 := by omega
  refine lv_istore (lv' := [(6, .int r197), (0, .ref b), (1, .ref l1), (2, .ref l2), (3, .ref l3), (4, .ref l4), (5, .int l5)]) hx hb dL_law_574 hl (by decide) rfl (fun ls hl => ?_)
  refine lv_aload_n hx hb dL_law_576 rfl (lv_at hl 3 rfl) ?_
  refine lv_aload_n hx hb dL_law_577 rfl (lv_at hl 1 rfl) ?_
  refine lv_iload hx hb dL_law_578 (lv_at hl 6 rfl) ?_
  refine lv_iconst (v := 1) hx hb dL_law_580 (by decide) ?_
  refine lv_iadd hx hb dL_law_581 ?_
  obtain ⟨g203, h⟩ := h
  refine va_sld hx hb hXs hbl hbA hS g203 dL_law_582 ?_
  refine lv_aload_n hx hb dL_law_583 rfl (lv_at hl 1 rfl) ?_
  refine lv_iload hx hb dL_law_584 (lv_at hl 6 rfl) ?_
  refine lv_iconst (v := 2) hx hb dL_law_586 (by decide) ?_
  refine lv_iadd hx hb dL_law_587 ?_
  obtain ⟨g204, h⟩ := h
  refine va_sld hx hb hXs hbl hbA hS g204 dL_law_588 ?_
  obtain ⟨g205, h⟩ := h
  refine xc_i (va_runV (As := [.int (xs (l5 + (1 : Int32)).toNatClampNeg), .int (xs (l5 + (2 : Int32)).toNatClampNeg)]) (rest := []) ⟨hx, hb, hml, hown, hts⟩ (mt_X6_setRetention l G (s.heap.size) h) (cwV 2 hts gL_law_X6_setRetention rfl rfl rfl (by decide +kernel) ⟨Nat.le_of_ble_eq_true rfl, Nat.le_of_ble_eq_true rfl⟩) (xp_V hbase hh hK hX hS (ci := 6) g205 (by decide) rfl) rfl rfl hl.1 rfl (lv_room (Nat.le_of_ble_eq_true rfl)) dL_law_589 ⟨by show _ ≤ 601024; omega, by show _ ≤ 7293034; omega⟩) hS (fun r206 m207 H locs h hh hS => ?_)
  refine lv_istore (lv' := [(7, .int r206), (6, .int r197), (0, .ref b), (1, .ref l1), (2, .ref l2), (3, .ref l3), (4, .ref l4), (5, .int l5)]) hx hb dL_law_592 hl (by decide) rfl (fun ls hl => ?_)
  refine lv_aload_n hx hb dL_law_594 rfl (lv_at hl 4 rfl) ?_
  obtain ⟨g208, h⟩ := h
  refine xc_i (va_runV (As := []) (rest := []) ⟨hx, hb, hml, hown, hts⟩ (mt_X6_thrown l G (s.heap.size) h) (cwV 0 hts gL_law_X6_thrown rfl rfl rfl (by decide +kernel) ⟨Nat.le_of_ble_eq_true rfl, Nat.le_of_ble_eq_true rfl⟩) (xp_V hbase hh hK hX hS (ci := 6) g208 (by decide) rfl) rfl rfl hl.1 rfl (lv_room (Nat.le_of_ble_eq_true rfl)) dL_law_595 ⟨by show _ ≤ 601024; omega, by show _ ≤ 7293034; omega⟩) hS (fun r209 m210 H locs h hh hS => ?_)
  refine lv_iload hx hb dL_law_598 (lv_at hl 1 rfl) ?_
  refine lv_icmp_eq (tgt := 605) hx hb dL_law_600 (by decide) (fun c211 => ?_) (fun c211 => ?_)
  · replace h := h.1 c211
    refine lv_iload hx hb dL_law_605 (lv_at hl 1 rfl) ?_
    refine lv_if_ne (tgt := 622) hx hb dL_law_607 (by decide) (fun c212 => ?_) (fun c212 => ?_)
    · replace h := h.1 c212
      refine lv_goto (tgt := 2255) hx hb dL_law_622 (by decide) ?_
      obtain ⟨x213, ex213⟩ : ∃ y : Int32, y = l5 + 7 := ⟨_, rfl⟩
      replace h := h x213 ex213
      refine lv_iinc (v := x213) (lv' := [(5, .int x213), (7, .int r206), (6, .int r197), (0, .ref b), (1, .ref l1), (2, .ref l2), (3, .ref l3), (4, .ref l4)]) hx hb dL_law_2255 hl (k := 7) rfl (by rw [ex213]; rfl) (by decide) rfl (fun ls hl => ?_)
      refine lv_goto (tgt := 28) hx hb dL_law_2258 (by decide) ?_
      exact hK9 _ _ _ _ _ _ _ _ _ cl201 sl202 kc199 ks200 hcc hss h hh hS (lv_sub hl [3, 4, 5, 6, 7, 0] rfl)
    · replace h := h.2 c212
      refine lv_aload_n hx hb dL_law_610 rfl (lv_at hl 5 rfl) ?_
      refine lv_iconst (v := 0) hx hb dL_law_611 (by decide) ?_
      obtain ⟨g214, h⟩ := h
      obtain ⟨g215, h⟩ := h
      refine xr_lald hx hb hK hh g214 g215 dL_law_612 ?_
      refine lv_iload hx hb dL_law_613 (lv_at hl 0 rfl) ?_
      refine lv_i2l hx hb dL_law_615 rfl ?_
      refine W.lcmp hx hb dL_law_616 ?_
      refine lv_if_eq (tgt := 622) hx hb dL_law_617 (by decide) (fun c216 => ?_) (fun c216 => ?_)
      · replace h := h.1 c216
        refine lv_goto (tgt := 2255) hx hb dL_law_622 (by decide) ?_
        obtain ⟨x217, ex217⟩ : ∃ y : Int32, y = l5 + 7 := ⟨_, rfl⟩
        replace h := h x217 ex217
        refine lv_iinc (v := x217) (lv' := [(5, .int x217), (7, .int r206), (6, .int r197), (0, .ref b), (1, .ref l1), (2, .ref l2), (3, .ref l3), (4, .ref l4)]) hx hb dL_law_2255 hl (k := 7) rfl (by rw [ex217]; rfl) (by decide) rfl (fun ls hl => ?_)
        refine lv_goto (tgt := 28) hx hb dL_law_2258 (by decide) ?_
        exact hK9 _ _ _ _ _ _ _ _ _ cl201 sl202 kc199 ks200 hcc hss h hh hS (lv_sub hl [3, 4, 5, 6, 7, 0] rfl)
      · replace h := h.2 c216
        refine lv_iconst (v := 0) hx hb dL_law_620 (by decide) ?_
        exact h.elim
  · replace h := h.2 c211
    refine lv_iconst (v := 0) hx hb dL_law_603 (by decide) ?_
    exact h.elim

set_option maxHeartbeats 4000000 in
set_option maxRecDepth 100000 in
theorem bk_L_law_625 {b LL : Nat} {xs : Nat → Int32} {p : Program} {l : Launch} {e : Env} {s : State} {m : MethodId} {below : List Frame} {meth : Method} {c : Code} {G : GG} (C0 : BC p s m #[Value.ref b] meth c G s.heap.size RL cL_law 9 ret wsL_law) (hl9 : l.stackTraces = false) (hXs : va_X b LL xs s s.heap) (hbl : b < s.heap.size)  {K : Nat → Nat → Nat → Nat → Int32 → MM → Nat → Nat → Prop} (hK9 : ∀ (l1 : Nat) (l2 : Nat) (l3 : Nat) (l4 : Nat) (l5 : Int32) (m0 : MM) (H : Heap) (locs : List Loc) (ls : Array Slot) (cl9 sl9 kc ks : Nat) (hcc : cl9 + kc ≤ 601024) (hss : sl9 + ks ≤ 7293034), K l1 l2 l3 l4 l5 m0 kc ks → hp G (xA s.heap.size) m0 H → va_S (xA s.heap.size) s.heap H locs → lv_has ls 9 [(0, .ref b), (1, .ref l1), (2, .ref l2), (3, .ref l3), (4, .ref l4), (5, .int l5)] → W p l e room_1 s m #[Value.ref b] below meth c H locs cl9 sl9 (lw_Z below #[Value.ref b] s) (F0 m 28 ls [])) : ∀ (l1 : Nat) (l2 : Nat) (l3 : Nat) (l4 : Nat) (l5 : Int32) (m0 : MM) (H : Heap) (locs : List Loc) (ls : Array Slot) (cl9 sl9 kc ks : Nat) (hcc : cl9 + kc ≤ 601024) (hss : sl9 + ks ≤ 7293034), wp_L_law_625 xs LL K l1 l2 l3 l4 l5 m0 kc ks → hp G (xA s.heap.size) m0 H → va_S (xA s.heap.size) s.heap H locs → lv_has ls 9 [(0, .ref b), (1, .ref l1), (2, .ref l2), (3, .ref l3), (4, .ref l4), (5, .int l5)] → W p l e room_1 s m #[Value.ref b] below meth c H locs cl9 sl9 (lw_Z below #[Value.ref b] s) (F0 m 625 ls []) := by
  obtain ⟨hx, hb, hr, hml, hown, hts, hlocks, hK, hbase, hX⟩ := id C0
  have hbA : ¬ xA s.heap.size b := Nat.not_le.mpr hbl
  intro l1 l2 l3 l4 l5 m0 H locs ls cl9 sl9 kc ks hcc hss h hh hS hl
  unfold wp_L_law_625 at h
  refine lv_aload_n hx hb dL_law_625 rfl (lv_at hl 1 rfl) ?_
  obtain ⟨g218, h⟩ := h
  refine xc_i (va_runV (As := []) (rest := []) ⟨hx, hb, hml, hown, hts⟩ (mt_X5_clock l G (s.heap.size) h) (cwV 0 hts gL_law_X5_clock rfl rfl rfl (by decide +kernel) ⟨Nat.le_of_ble_eq_true rfl, Nat.le_of_ble_eq_true rfl⟩) (xp_V hbase hh hK hX hS (ci := 5) g218 (by decide) rfl) rfl rfl hl.1 rfl (lv_room (Nat.le_of_ble_eq_true rfl)) dL_law_626 ⟨by show _ ≤ 601024; omega, by show _ ≤ 7293034; omega⟩) hS (fun r219 m220 H locs h hh hS => ?_)
  refine lv_aload_n hx hb dL_law_629 rfl (lv_at hl 2 rfl) ?_
  obtain ⟨g221, h⟩ := h
  refine xc_i (va_runV (As := []) (rest := [.int r219]) ⟨hx, hb, hml, hown, hts⟩ (mt_X6_clock l G (s.heap.size) h) (cwV 0 hts gL_law_X6_clock rfl rfl rfl (by decide +kernel) ⟨Nat.le_of_ble_eq_true rfl, Nat.le_of_ble_eq_true rfl⟩) (xp_V hbase hh hK hX hS (ci := 6) g221 (by decide) rfl) rfl rfl hl.1 rfl (lv_room (Nat.le_of_ble_eq_true rfl)) dL_law_630 ⟨by show _ ≤ 601024; omega, by show _ ≤ 7293034; omega⟩) hS (fun r222 m223 H locs h hh hS => ?_)
  refine lv_icmp_eq (tgt := 2255) hx hb dL_law_633 (by decide) (fun c224 => ?_) (fun c224 => ?_)
  · replace h := h.1 c224
    obtain ⟨x225, ex225⟩ : ∃ y : Int32, y = l5 + 7 := ⟨_, rfl⟩
    replace h := h x225 ex225
    refine lv_iinc (v := x225) (lv' := [(5, .int x225), (0, .ref b), (1, .ref l1), (2, .ref l2), (3, .ref l3), (4, .ref l4)]) hx hb dL_law_2255 hl (k := 5) rfl (by rw [ex225]; rfl) (by decide) rfl (fun ls hl => ?_)
    refine lv_goto (tgt := 28) hx hb dL_law_2258 (by decide) ?_
    exact hK9 _ _ _ _ _ _ _ _ _ cl9 sl9 kc ks hcc hss h hh hS (lv_sub hl [1, 2, 3, 4, 5, 0] rfl)
  · replace h := h.2 c224
    refine lv_iconst (v := 0) hx hb dL_law_636 (by decide) ?_
    exact h.elim

set_option maxHeartbeats 4000000 in
set_option maxRecDepth 100000 in
theorem bk_L_law_638 {b LL : Nat} {xs : Nat → Int32} {p : Program} {l : Launch} {e : Env} {s : State} {m : MethodId} {below : List Frame} {meth : Method} {c : Code} {G : GG} (C0 : BC p s m #[Value.ref b] meth c G s.heap.size RL cL_law 9 ret wsL_law) (hl9 : l.stackTraces = false) (hXs : va_X b LL xs s s.heap) (hbl : b < s.heap.size)  {K : Nat → Nat → Nat → Nat → Int32 → MM → Nat → Nat → Prop} (hK9 : ∀ (l1 : Nat) (l2 : Nat) (l3 : Nat) (l4 : Nat) (l5 : Int32) (m0 : MM) (H : Heap) (locs : List Loc) (ls : Array Slot) (cl9 sl9 kc ks : Nat) (hcc : cl9 + kc ≤ 601024) (hss : sl9 + ks ≤ 7293034), K l1 l2 l3 l4 l5 m0 kc ks → hp G (xA s.heap.size) m0 H → va_S (xA s.heap.size) s.heap H locs → lv_has ls 9 [(0, .ref b), (1, .ref l1), (2, .ref l2), (3, .ref l3), (4, .ref l4), (5, .int l5)] → W p l e room_1 s m #[Value.ref b] below meth c H locs cl9 sl9 (lw_Z below #[Value.ref b] s) (F0 m 28 ls [])) : ∀ (l1 : Nat) (l2 : Nat) (l3 : Nat) (l4 : Nat) (l5 : Int32) (m0 : MM) (H : Heap) (locs : List Loc) (ls : Array Slot) (cl9 sl9 kc ks : Nat) (hcc : cl9 + kc ≤ 601024) (hss : sl9 + ks ≤ 7293034), wp_L_law_638 xs LL K l1 l2 l3 l4 l5 m0 kc ks → hp G (xA s.heap.size) m0 H → va_S (xA s.heap.size) s.heap H locs → lv_has ls 9 [(0, .ref b), (1, .ref l1), (2, .ref l2), (3, .ref l3), (4, .ref l4), (5, .int l5)] → W p l e room_1 s m #[Value.ref b] below meth c H locs cl9 sl9 (lw_Z below #[Value.ref b] s) (F0 m 638 ls []) := by
  obtain ⟨hx, hb, hr, hml, hown, hts, hlocks, hK, hbase, hX⟩ := id C0
  have hbA : ¬ xA s.heap.size b := Nat.not_le.mpr hbl
  intro l1 l2 l3 l4 l5 m0 H locs ls cl9 sl9 kc ks hcc hss h hh hS hl
  unfold wp_L_law_638 at h
  refine lv_aload_n hx hb dL_law_638 rfl (lv_at hl 1 rfl) ?_
  obtain ⟨g226, h⟩ := h
  refine xc_i (va_runV (As := []) (rest := []) ⟨hx, hb, hml, hown, hts⟩ (mt_X5_series l G (s.heap.size) h) (cwV 0 hts gL_law_X5_series rfl rfl rfl (by decide +kernel) ⟨Nat.le_of_ble_eq_true rfl, Nat.le_of_ble_eq_true rfl⟩) (xp_V hbase hh hK hX hS (ci := 5) g226 (by decide) rfl) rfl rfl hl.1 rfl (lv_room (Nat.le_of_ble_eq_true rfl)) dL_law_639 ⟨by show _ ≤ 601024; omega, by show _ ≤ 7293034; omega⟩) hS (fun r227 m228 H locs h hh hS => ?_)
  refine lv_aload_n hx hb dL_law_642 rfl (lv_at hl 2 rfl) ?_
  obtain ⟨g229, h⟩ := h
  refine xc_i (va_runV (As := []) (rest := [.int r227]) ⟨hx, hb, hml, hown, hts⟩ (mt_X6_series l G (s.heap.size) h) (cwV 0 hts gL_law_X6_series rfl rfl rfl (by decide +kernel) ⟨Nat.le_of_ble_eq_true rfl, Nat.le_of_ble_eq_true rfl⟩) (xp_V hbase hh hK hX hS (ci := 6) g229 (by decide) rfl) rfl rfl hl.1 rfl (lv_room (Nat.le_of_ble_eq_true rfl)) dL_law_643 ⟨by show _ ≤ 601024; omega, by show _ ≤ 7293034; omega⟩) hS (fun r230 m231 H locs h hh hS => ?_)
  refine lv_icmp_eq (tgt := 2255) hx hb dL_law_646 (by decide) (fun c232 => ?_) (fun c232 => ?_)
  · replace h := h.1 c232
    obtain ⟨x233, ex233⟩ : ∃ y : Int32, y = l5 + 7 := ⟨_, rfl⟩
    replace h := h x233 ex233
    refine lv_iinc (v := x233) (lv' := [(5, .int x233), (0, .ref b), (1, .ref l1), (2, .ref l2), (3, .ref l3), (4, .ref l4)]) hx hb dL_law_2255 hl (k := 5) rfl (by rw [ex233]; rfl) (by decide) rfl (fun ls hl => ?_)
    refine lv_goto (tgt := 28) hx hb dL_law_2258 (by decide) ?_
    exact hK9 _ _ _ _ _ _ _ _ _ cl9 sl9 kc ks hcc hss h hh hS (lv_sub hl [1, 2, 3, 4, 5, 0] rfl)
  · replace h := h.2 c232
    refine lv_iconst (v := 0) hx hb dL_law_649 (by decide) ?_
    exact h.elim

set_option maxHeartbeats 4000000 in
set_option maxRecDepth 100000 in
theorem bk_L_law_651 {b LL : Nat} {xs : Nat → Int32} {p : Program} {l : Launch} {e : Env} {s : State} {m : MethodId} {below : List Frame} {meth : Method} {c : Code} {G : GG} (C0 : BC p s m #[Value.ref b] meth c G s.heap.size RL cL_law 9 ret wsL_law) (hl9 : l.stackTraces = false) (hXs : va_X b LL xs s s.heap) (hbl : b < s.heap.size)  {K : Nat → Nat → Nat → Nat → Int32 → MM → Nat → Nat → Prop} (hK9 : ∀ (l1 : Nat) (l2 : Nat) (l3 : Nat) (l4 : Nat) (l5 : Int32) (m0 : MM) (H : Heap) (locs : List Loc) (ls : Array Slot) (cl9 sl9 kc ks : Nat) (hcc : cl9 + kc ≤ 601024) (hss : sl9 + ks ≤ 7293034), K l1 l2 l3 l4 l5 m0 kc ks → hp G (xA s.heap.size) m0 H → va_S (xA s.heap.size) s.heap H locs → lv_has ls 9 [(0, .ref b), (1, .ref l1), (2, .ref l2), (3, .ref l3), (4, .ref l4), (5, .int l5)] → W p l e room_1 s m #[Value.ref b] below meth c H locs cl9 sl9 (lw_Z below #[Value.ref b] s) (F0 m 28 ls [])) : ∀ (l1 : Nat) (l2 : Nat) (l3 : Nat) (l4 : Nat) (l5 : Int32) (m0 : MM) (H : Heap) (locs : List Loc) (ls : Array Slot) (cl9 sl9 kc ks : Nat) (hcc : cl9 + kc ≤ 601024) (hss : sl9 + ks ≤ 7293034), wp_L_law_651 xs LL K l1 l2 l3 l4 l5 m0 kc ks → hp G (xA s.heap.size) m0 H → va_S (xA s.heap.size) s.heap H locs → lv_has ls 9 [(0, .ref b), (1, .ref l1), (2, .ref l2), (3, .ref l3), (4, .ref l4), (5, .int l5)] → W p l e room_1 s m #[Value.ref b] below meth c H locs cl9 sl9 (lw_Z below #[Value.ref b] s) (F0 m 651 ls []) := by
  obtain ⟨hx, hb, hr, hml, hown, hts, hlocks, hK, hbase, hX⟩ := id C0
  have hbA : ¬ xA s.heap.size b := Nat.not_le.mpr hbl
  intro l1 l2 l3 l4 l5 m0 H locs ls cl9 sl9 kc ks hcc hss h hh hS hl
  unfold wp_L_law_651 at h
  refine lv_aload_n hx hb dL_law_651 rfl (lv_at hl 1 rfl) ?_
  refine lv_aload_n hx hb dL_law_652 rfl (lv_at hl 0 rfl) ?_
  refine lv_iload hx hb dL_law_653 (lv_at hl 5 rfl) ?_
  refine lv_iconst (v := 1) hx hb dL_law_655 (by decide) ?_
  refine lv_iadd hx hb dL_law_656 ?_
  obtain ⟨g234, h⟩ := h
  refine va_sld hx hb hXs hbl hbA hS g234 dL_law_657 ?_
  refine lv_aload_n hx hb dL_law_658 rfl (lv_at hl 3 rfl) ?_
  obtain ⟨g235, g236, h⟩ := h
  refine xt_i (vx_runSX (As := [.ref l1, .int (xs (l5 + (1 : Int32)).toNatClampNeg), .ref l3]) (rest := []) ⟨hx, hb, hml, hown, hts⟩ (mt_L_horizon l hl9 G (s.heap.size) h) (vx_cwSW 3 hts gL_law_L_horizon rfl rfl rfl (by decide +kernel) ⟨Nat.le_of_ble_eq_true rfl, Nat.le_of_ble_eq_true rfl⟩) (xp_S hbase hh hK hX hS) rfl rfl hl.1 rfl (lv_room (Nat.le_of_ble_eq_true rfl)) dL_law_659 ⟨by show _ ≤ 601024; omega, by show _ ≤ 7293034; omega⟩) hS (fun k9 m9 H locs q9 ce h hh hS hc9 hv9 hcl9 => h.elim) (fun r237 m238 H locs h hh hS => ?_)
  obtain ⟨kc239, ekc239⟩ : ∃ z : Nat, z = kc - 1 := ⟨_, rfl⟩
  obtain ⟨ks240, eks240⟩ : ∃ z : Nat, z = ks - 6 := ⟨_, rfl⟩
  replace h := h kc239 ks240 ekc239 eks240
  obtain ⟨cl241, ecl241⟩ : ∃ z : Nat, z = cl9 + 1 := ⟨_, rfl⟩
  obtain ⟨sl242, esl242⟩ : ∃ z : Nat, z = sl9 + 6 := ⟨_, rfl⟩
  refine W_cs ecl241 esl242 ?_
  have hcc : cl241 + kc239 ≤ 601024 := by omega
  have hss : sl242 + ks240 ≤ 7293034 := by omega
  refine lv_istore (lv' := [(6, .int r237), (0, .ref b), (1, .ref l1), (2, .ref l2), (3, .ref l3), (4, .ref l4), (5, .int l5)]) hx hb dL_law_662 hl (by decide) rfl (fun ls hl => ?_)
  refine lv_aload_n hx hb dL_law_664 rfl (lv_at hl 3 rfl) ?_
  refine lv_aload_n hx hb dL_law_665 rfl (lv_at hl 1 rfl) ?_
  refine lv_iload hx hb dL_law_666 (lv_at hl 6 rfl) ?_
  refine lv_iconst (v := 1) hx hb dL_law_668 (by decide) ?_
  refine lv_iadd hx hb dL_law_669 ?_
  obtain ⟨g243, h⟩ := h
  refine va_sld hx hb hXs hbl hbA hS g243 dL_law_670 ?_
  obtain ⟨g244, h⟩ := h
  refine xc_i (va_runV (As := [.int (xs (l5 + (1 : Int32)).toNatClampNeg)]) (rest := []) ⟨hx, hb, hml, hown, hts⟩ (mt_X6_horizon l G (s.heap.size) h) (cwV 1 hts gL_law_X6_horizon rfl rfl rfl (by decide +kernel) ⟨Nat.le_of_ble_eq_true rfl, Nat.le_of_ble_eq_true rfl⟩) (xp_V hbase hh hK hX hS (ci := 6) g244 (by decide) rfl) rfl rfl hl.1 rfl (lv_room (Nat.le_of_ble_eq_true rfl)) dL_law_671 ⟨by show _ ≤ 601024; omega, by show _ ≤ 7293034; omega⟩) hS (fun r245 m246 H locs h hh hS => ?_)
  refine lv_istore (lv' := [(7, .int r245), (6, .int r237), (0, .ref b), (1, .ref l1), (2, .ref l2), (3, .ref l3), (4, .ref l4), (5, .int l5)]) hx hb dL_law_674 hl (by decide) rfl (fun ls hl => ?_)
  refine lv_aload_n hx hb dL_law_676 rfl (lv_at hl 4 rfl) ?_
  obtain ⟨g247, h⟩ := h
  refine xc_i (va_runV (As := []) (rest := []) ⟨hx, hb, hml, hown, hts⟩ (mt_X6_thrown l G (s.heap.size) h) (cwV 0 hts gL_law_X6_thrown rfl rfl rfl (by decide +kernel) ⟨Nat.le_of_ble_eq_true rfl, Nat.le_of_ble_eq_true rfl⟩) (xp_V hbase hh hK hX hS (ci := 6) g247 (by decide) rfl) rfl rfl hl.1 rfl (lv_room (Nat.le_of_ble_eq_true rfl)) dL_law_677 ⟨by show _ ≤ 601024; omega, by show _ ≤ 7293034; omega⟩) hS (fun r248 m249 H locs h hh hS => ?_)
  refine lv_iload hx hb dL_law_680 (lv_at hl 1 rfl) ?_
  refine lv_icmp_eq (tgt := 687) hx hb dL_law_682 (by decide) (fun c250 => ?_) (fun c250 => ?_)
  · replace h := h.1 c250
    refine lv_iload hx hb dL_law_687 (lv_at hl 1 rfl) ?_
    refine lv_if_ne (tgt := 704) hx hb dL_law_689 (by decide) (fun c251 => ?_) (fun c251 => ?_)
    · replace h := h.1 c251
      refine lv_goto (tgt := 2255) hx hb dL_law_704 (by decide) ?_
      obtain ⟨x252, ex252⟩ : ∃ y : Int32, y = l5 + 7 := ⟨_, rfl⟩
      replace h := h x252 ex252
      refine lv_iinc (v := x252) (lv' := [(5, .int x252), (7, .int r245), (6, .int r237), (0, .ref b), (1, .ref l1), (2, .ref l2), (3, .ref l3), (4, .ref l4)]) hx hb dL_law_2255 hl (k := 7) rfl (by rw [ex252]; rfl) (by decide) rfl (fun ls hl => ?_)
      refine lv_goto (tgt := 28) hx hb dL_law_2258 (by decide) ?_
      exact hK9 _ _ _ _ _ _ _ _ _ cl241 sl242 kc239 ks240 hcc hss h hh hS (lv_sub hl [3, 4, 5, 6, 7, 0] rfl)
    · replace h := h.2 c251
      refine lv_aload_n hx hb dL_law_692 rfl (lv_at hl 5 rfl) ?_
      refine lv_iconst (v := 0) hx hb dL_law_693 (by decide) ?_
      obtain ⟨g253, h⟩ := h
      obtain ⟨g254, h⟩ := h
      refine xr_lald hx hb hK hh g253 g254 dL_law_694 ?_
      refine lv_iload hx hb dL_law_695 (lv_at hl 0 rfl) ?_
      refine lv_i2l hx hb dL_law_697 rfl ?_
      refine W.lcmp hx hb dL_law_698 ?_
      refine lv_if_eq (tgt := 704) hx hb dL_law_699 (by decide) (fun c255 => ?_) (fun c255 => ?_)
      · replace h := h.1 c255
        refine lv_goto (tgt := 2255) hx hb dL_law_704 (by decide) ?_
        obtain ⟨x256, ex256⟩ : ∃ y : Int32, y = l5 + 7 := ⟨_, rfl⟩
        replace h := h x256 ex256
        refine lv_iinc (v := x256) (lv' := [(5, .int x256), (7, .int r245), (6, .int r237), (0, .ref b), (1, .ref l1), (2, .ref l2), (3, .ref l3), (4, .ref l4)]) hx hb dL_law_2255 hl (k := 7) rfl (by rw [ex256]; rfl) (by decide) rfl (fun ls hl => ?_)
        refine lv_goto (tgt := 28) hx hb dL_law_2258 (by decide) ?_
        exact hK9 _ _ _ _ _ _ _ _ _ cl241 sl242 kc239 ks240 hcc hss h hh hS (lv_sub hl [3, 4, 5, 6, 7, 0] rfl)
      · replace h := h.2 c255
        refine lv_iconst (v := 0) hx hb dL_law_702 (by decide) ?_
        exact h.elim
  · replace h := h.2 c250
    refine lv_iconst (v := 0) hx hb dL_law_685 (by decide) ?_
    exact h.elim

set_option maxHeartbeats 4000000 in
set_option maxRecDepth 100000 in
theorem bk_L_law_707 {b LL : Nat} {xs : Nat → Int32} {p : Program} {l : Launch} {e : Env} {s : State} {m : MethodId} {below : List Frame} {meth : Method} {c : Code} {G : GG} (C0 : BC p s m #[Value.ref b] meth c G s.heap.size RL cL_law 9 ret wsL_law) (hl9 : l.stackTraces = false) (hXs : va_X b LL xs s s.heap) (hbl : b < s.heap.size)  {K : Nat → Nat → Nat → Nat → Int32 → MM → Nat → Nat → Prop} (hK9 : ∀ (l1 : Nat) (l2 : Nat) (l3 : Nat) (l4 : Nat) (l5 : Int32) (m0 : MM) (H : Heap) (locs : List Loc) (ls : Array Slot) (cl9 sl9 kc ks : Nat) (hcc : cl9 + kc ≤ 601024) (hss : sl9 + ks ≤ 7293034), K l1 l2 l3 l4 l5 m0 kc ks → hp G (xA s.heap.size) m0 H → va_S (xA s.heap.size) s.heap H locs → lv_has ls 9 [(0, .ref b), (1, .ref l1), (2, .ref l2), (3, .ref l3), (4, .ref l4), (5, .int l5)] → W p l e room_1 s m #[Value.ref b] below meth c H locs cl9 sl9 (lw_Z below #[Value.ref b] s) (F0 m 28 ls [])) : ∀ (l1 : Nat) (l2 : Nat) (l3 : Nat) (l4 : Nat) (l5 : Int32) (m0 : MM) (H : Heap) (locs : List Loc) (ls : Array Slot) (cl9 sl9 kc ks : Nat) (hcc : cl9 + kc ≤ 601024) (hss : sl9 + ks ≤ 7293034), wp_L_law_707 xs LL K l1 l2 l3 l4 l5 m0 kc ks → hp G (xA s.heap.size) m0 H → va_S (xA s.heap.size) s.heap H locs → lv_has ls 9 [(0, .ref b), (1, .ref l1), (2, .ref l2), (3, .ref l3), (4, .ref l4), (5, .int l5)] → W p l e room_1 s m #[Value.ref b] below meth c H locs cl9 sl9 (lw_Z below #[Value.ref b] s) (F0 m 707 ls []) := by
  obtain ⟨hx, hb, hr, hml, hown, hts, hlocks, hK, hbase, hX⟩ := id C0
  have hbA : ¬ xA s.heap.size b := Nat.not_le.mpr hbl
  intro l1 l2 l3 l4 l5 m0 H locs ls cl9 sl9 kc ks hcc hss h hh hS hl
  unfold wp_L_law_707 at h
  refine lv_aload_n hx hb dL_law_707 rfl (lv_at hl 1 rfl) ?_
  refine lv_aload_n hx hb dL_law_708 rfl (lv_at hl 0 rfl) ?_
  refine lv_iload hx hb dL_law_709 (lv_at hl 5 rfl) ?_
  refine lv_iconst (v := 1) hx hb dL_law_711 (by decide) ?_
  refine lv_iadd hx hb dL_law_712 ?_
  obtain ⟨g257, h⟩ := h
  refine va_sld hx hb hXs hbl hbA hS g257 dL_law_713 ?_
  refine lv_aload_n hx hb dL_law_714 rfl (lv_at hl 0 rfl) ?_
  refine lv_iload hx hb dL_law_715 (lv_at hl 5 rfl) ?_
  refine lv_iconst (v := 2) hx hb dL_law_717 (by decide) ?_
  refine lv_iadd hx hb dL_law_718 ?_
  obtain ⟨g258, h⟩ := h
  refine va_sld hx hb hXs hbl hbA hS g258 dL_law_719 ?_
  refine lv_aload_n hx hb dL_law_720 rfl (lv_at hl 3 rfl) ?_
  obtain ⟨g259, g260, h⟩ := h
  refine xt_i (vx_runSX (As := [.ref l1, .int (xs (l5 + (1 : Int32)).toNatClampNeg), .int (xs (l5 + (2 : Int32)).toNatClampNeg), .ref l3]) (rest := []) ⟨hx, hb, hml, hown, hts⟩ (mt_L_rows l hl9 G (s.heap.size) h) (vx_cwSW 4 hts gL_law_L_rows rfl rfl rfl (by decide +kernel) ⟨Nat.le_of_ble_eq_true rfl, Nat.le_of_ble_eq_true rfl⟩) (xp_S hbase hh hK hX hS) rfl rfl hl.1 rfl (lv_room (Nat.le_of_ble_eq_true rfl)) dL_law_721 ⟨by show _ ≤ 601024; omega, by show _ ≤ 7293034; omega⟩) hS (fun k9 m9 H locs q9 ce h hh hS hc9 hv9 hcl9 => h.elim) (fun r261 m262 H locs h hh hS => ?_)
  obtain ⟨kc263, ekc263⟩ : ∃ z : Nat, z = kc - 2 := ⟨_, rfl⟩
  obtain ⟨ks264, eks264⟩ : ∃ z : Nat, z = ks - 12 := ⟨_, rfl⟩
  replace h := h kc263 ks264 ekc263 eks264
  obtain ⟨cl265, ecl265⟩ : ∃ z : Nat, z = cl9 + 2 := ⟨_, rfl⟩
  obtain ⟨sl266, esl266⟩ : ∃ z : Nat, z = sl9 + 12 := ⟨_, rfl⟩
  refine W_cs ecl265 esl266 ?_
  have hcc : cl265 + kc263 ≤ 601024 := by omega
  have hss : sl266 + ks264 ≤ 7293034 := by omega
  refine lv_istore (lv' := [(6, .int r261), (0, .ref b), (1, .ref l1), (2, .ref l2), (3, .ref l3), (4, .ref l4), (5, .int l5)]) hx hb dL_law_724 hl (by decide) rfl (fun ls hl => ?_)
  refine lv_aload_n hx hb dL_law_726 rfl (lv_at hl 3 rfl) ?_
  refine lv_aload_n hx hb dL_law_727 rfl (lv_at hl 1 rfl) ?_
  refine lv_iload hx hb dL_law_728 (lv_at hl 6 rfl) ?_
  refine lv_iconst (v := 1) hx hb dL_law_730 (by decide) ?_
  refine lv_iadd hx hb dL_law_731 ?_
  obtain ⟨g267, h⟩ := h
  refine va_sld hx hb hXs hbl hbA hS g267 dL_law_732 ?_
  refine lv_aload_n hx hb dL_law_733 rfl (lv_at hl 1 rfl) ?_
  refine lv_iload hx hb dL_law_734 (lv_at hl 6 rfl) ?_
  refine lv_iconst (v := 2) hx hb dL_law_736 (by decide) ?_
  refine lv_iadd hx hb dL_law_737 ?_
  obtain ⟨g268, h⟩ := h
  refine va_sld hx hb hXs hbl hbA hS g268 dL_law_738 ?_
  obtain ⟨g269, h⟩ := h
  refine xc_i (va_runV (As := [.int (xs (l5 + (1 : Int32)).toNatClampNeg), .int (xs (l5 + (2 : Int32)).toNatClampNeg)]) (rest := []) ⟨hx, hb, hml, hown, hts⟩ (mt_X6_rows l G (s.heap.size) h) (cwV 2 hts gL_law_X6_rows rfl rfl rfl (by decide +kernel) ⟨Nat.le_of_ble_eq_true rfl, Nat.le_of_ble_eq_true rfl⟩) (xp_V hbase hh hK hX hS (ci := 6) g269 (by decide) rfl) rfl rfl hl.1 rfl (lv_room (Nat.le_of_ble_eq_true rfl)) dL_law_739 ⟨by show _ ≤ 601024; omega, by show _ ≤ 7293034; omega⟩) hS (fun r270 m271 H locs h hh hS => ?_)
  refine lv_istore (lv' := [(7, .int r270), (6, .int r261), (0, .ref b), (1, .ref l1), (2, .ref l2), (3, .ref l3), (4, .ref l4), (5, .int l5)]) hx hb dL_law_742 hl (by decide) rfl (fun ls hl => ?_)
  refine lv_aload_n hx hb dL_law_744 rfl (lv_at hl 4 rfl) ?_
  obtain ⟨g272, h⟩ := h
  refine xc_i (va_runV (As := []) (rest := []) ⟨hx, hb, hml, hown, hts⟩ (mt_X6_thrown l G (s.heap.size) h) (cwV 0 hts gL_law_X6_thrown rfl rfl rfl (by decide +kernel) ⟨Nat.le_of_ble_eq_true rfl, Nat.le_of_ble_eq_true rfl⟩) (xp_V hbase hh hK hX hS (ci := 6) g272 (by decide) rfl) rfl rfl hl.1 rfl (lv_room (Nat.le_of_ble_eq_true rfl)) dL_law_745 ⟨by show _ ≤ 601024; omega, by show _ ≤ 7293034; omega⟩) hS (fun r273 m274 H locs h hh hS => ?_)
  refine lv_iload hx hb dL_law_748 (lv_at hl 1 rfl) ?_
  refine lv_icmp_eq (tgt := 755) hx hb dL_law_750 (by decide) (fun c275 => ?_) (fun c275 => ?_)
  · replace h := h.1 c275
    refine lv_iload hx hb dL_law_755 (lv_at hl 1 rfl) ?_
    refine lv_if_ne (tgt := 772) hx hb dL_law_757 (by decide) (fun c276 => ?_) (fun c276 => ?_)
    · replace h := h.1 c276
      refine lv_goto (tgt := 2255) hx hb dL_law_772 (by decide) ?_
      obtain ⟨x277, ex277⟩ : ∃ y : Int32, y = l5 + 7 := ⟨_, rfl⟩
      replace h := h x277 ex277
      refine lv_iinc (v := x277) (lv' := [(5, .int x277), (7, .int r270), (6, .int r261), (0, .ref b), (1, .ref l1), (2, .ref l2), (3, .ref l3), (4, .ref l4)]) hx hb dL_law_2255 hl (k := 7) rfl (by rw [ex277]; rfl) (by decide) rfl (fun ls hl => ?_)
      refine lv_goto (tgt := 28) hx hb dL_law_2258 (by decide) ?_
      exact hK9 _ _ _ _ _ _ _ _ _ cl265 sl266 kc263 ks264 hcc hss h hh hS (lv_sub hl [3, 4, 5, 6, 7, 0] rfl)
    · replace h := h.2 c276
      refine lv_aload_n hx hb dL_law_760 rfl (lv_at hl 5 rfl) ?_
      refine lv_iconst (v := 0) hx hb dL_law_761 (by decide) ?_
      obtain ⟨g278, h⟩ := h
      obtain ⟨g279, h⟩ := h
      refine xr_lald hx hb hK hh g278 g279 dL_law_762 ?_
      refine lv_iload hx hb dL_law_763 (lv_at hl 0 rfl) ?_
      refine lv_i2l hx hb dL_law_765 rfl ?_
      refine W.lcmp hx hb dL_law_766 ?_
      refine lv_if_eq (tgt := 772) hx hb dL_law_767 (by decide) (fun c280 => ?_) (fun c280 => ?_)
      · replace h := h.1 c280
        refine lv_goto (tgt := 2255) hx hb dL_law_772 (by decide) ?_
        obtain ⟨x281, ex281⟩ : ∃ y : Int32, y = l5 + 7 := ⟨_, rfl⟩
        replace h := h x281 ex281
        refine lv_iinc (v := x281) (lv' := [(5, .int x281), (7, .int r270), (6, .int r261), (0, .ref b), (1, .ref l1), (2, .ref l2), (3, .ref l3), (4, .ref l4)]) hx hb dL_law_2255 hl (k := 7) rfl (by rw [ex281]; rfl) (by decide) rfl (fun ls hl => ?_)
        refine lv_goto (tgt := 28) hx hb dL_law_2258 (by decide) ?_
        exact hK9 _ _ _ _ _ _ _ _ _ cl265 sl266 kc263 ks264 hcc hss h hh hS (lv_sub hl [3, 4, 5, 6, 7, 0] rfl)
      · replace h := h.2 c280
        refine lv_iconst (v := 0) hx hb dL_law_770 (by decide) ?_
        exact h.elim
  · replace h := h.2 c275
    refine lv_iconst (v := 0) hx hb dL_law_753 (by decide) ?_
    exact h.elim

set_option maxHeartbeats 4000000 in
set_option maxRecDepth 100000 in
theorem bk_L_law_775 {b LL : Nat} {xs : Nat → Int32} {p : Program} {l : Launch} {e : Env} {s : State} {m : MethodId} {below : List Frame} {meth : Method} {c : Code} {G : GG} (C0 : BC p s m #[Value.ref b] meth c G s.heap.size RL cL_law 9 ret wsL_law) (hl9 : l.stackTraces = false) (hXs : va_X b LL xs s s.heap) (hbl : b < s.heap.size)  {K : Nat → Nat → Nat → Nat → Int32 → MM → Nat → Nat → Prop} (hK9 : ∀ (l1 : Nat) (l2 : Nat) (l3 : Nat) (l4 : Nat) (l5 : Int32) (m0 : MM) (H : Heap) (locs : List Loc) (ls : Array Slot) (cl9 sl9 kc ks : Nat) (hcc : cl9 + kc ≤ 601024) (hss : sl9 + ks ≤ 7293034), K l1 l2 l3 l4 l5 m0 kc ks → hp G (xA s.heap.size) m0 H → va_S (xA s.heap.size) s.heap H locs → lv_has ls 9 [(0, .ref b), (1, .ref l1), (2, .ref l2), (3, .ref l3), (4, .ref l4), (5, .int l5)] → W p l e room_1 s m #[Value.ref b] below meth c H locs cl9 sl9 (lw_Z below #[Value.ref b] s) (F0 m 28 ls [])) : ∀ (l1 : Nat) (l2 : Nat) (l3 : Nat) (l4 : Nat) (l5 : Int32) (m0 : MM) (H : Heap) (locs : List Loc) (ls : Array Slot) (cl9 sl9 kc ks : Nat) (hcc : cl9 + kc ≤ 601024) (hss : sl9 + ks ≤ 7293034), wp_L_law_775 xs LL K l1 l2 l3 l4 l5 m0 kc ks → hp G (xA s.heap.size) m0 H → va_S (xA s.heap.size) s.heap H locs → lv_has ls 9 [(0, .ref b), (1, .ref l1), (2, .ref l2), (3, .ref l3), (4, .ref l4), (5, .int l5)] → W p l e room_1 s m #[Value.ref b] below meth c H locs cl9 sl9 (lw_Z below #[Value.ref b] s) (F0 m 775 ls []) := by
  obtain ⟨hx, hb, hr, hml, hown, hts, hlocks, hK, hbase, hX⟩ := id C0
  have hbA : ¬ xA s.heap.size b := Nat.not_le.mpr hbl
  intro l1 l2 l3 l4 l5 m0 H locs ls cl9 sl9 kc ks hcc hss h hh hS hl
  unfold wp_L_law_775 at h
  refine lv_aload_n hx hb dL_law_775 rfl (lv_at hl 1 rfl) ?_
  refine lv_aload_n hx hb dL_law_776 rfl (lv_at hl 0 rfl) ?_
  refine lv_iload hx hb dL_law_777 (lv_at hl 5 rfl) ?_
  refine lv_iconst (v := 1) hx hb dL_law_779 (by decide) ?_
  refine lv_iadd hx hb dL_law_780 ?_
  obtain ⟨g282, h⟩ := h
  refine va_sld hx hb hXs hbl hbA hS g282 dL_law_781 ?_
  refine lv_aload_n hx hb dL_law_782 rfl (lv_at hl 0 rfl) ?_
  refine lv_iload hx hb dL_law_783 (lv_at hl 5 rfl) ?_
  refine lv_iconst (v := 2) hx hb dL_law_785 (by decide) ?_
  refine lv_iadd hx hb dL_law_786 ?_
  obtain ⟨g283, h⟩ := h
  refine va_sld hx hb hXs hbl hbA hS g283 dL_law_787 ?_
  refine lv_aload_n hx hb dL_law_788 rfl (lv_at hl 0 rfl) ?_
  refine lv_iload hx hb dL_law_789 (lv_at hl 5 rfl) ?_
  refine lv_iconst (v := 3) hx hb dL_law_791 (by decide) ?_
  refine lv_iadd hx hb dL_law_792 ?_
  obtain ⟨g284, h⟩ := h
  refine va_sld hx hb hXs hbl hbA hS g284 dL_law_793 ?_
  refine lv_aload_n hx hb dL_law_794 rfl (lv_at hl 3 rfl) ?_
  obtain ⟨g285, g286, h⟩ := h
  refine xt_i (vx_runSX (As := [.ref l1, .int (xs (l5 + (1 : Int32)).toNatClampNeg), .int (xs (l5 + (2 : Int32)).toNatClampNeg), .int (xs (l5 + (3 : Int32)).toNatClampNeg), .ref l3]) (rest := []) ⟨hx, hb, hml, hown, hts⟩ (mt_L_timeOf l hl9 G (s.heap.size) h) (vx_cwSW 5 hts gL_law_L_timeOf rfl rfl rfl (by decide +kernel) ⟨Nat.le_of_ble_eq_true rfl, Nat.le_of_ble_eq_true rfl⟩) (xp_S hbase hh hK hX hS) rfl rfl hl.1 rfl (lv_room (Nat.le_of_ble_eq_true rfl)) dL_law_795 ⟨by show _ ≤ 601024; omega, by show _ ≤ 7293034; omega⟩) hS (fun k9 m9 H locs q9 ce h hh hS hc9 hv9 hcl9 => h.elim) (fun r287 m288 H locs h hh hS => ?_)
  obtain ⟨kc289, ekc289⟩ : ∃ z : Nat, z = kc - 3 := ⟨_, rfl⟩
  obtain ⟨ks290, eks290⟩ : ∃ z : Nat, z = ks - 18 := ⟨_, rfl⟩
  replace h := h kc289 ks290 ekc289 eks290
  obtain ⟨cl291, ecl291⟩ : ∃ z : Nat, z = cl9 + 3 := ⟨_, rfl⟩
  obtain ⟨sl292, esl292⟩ : ∃ z : Nat, z = sl9 + 18 := ⟨_, rfl⟩
  refine W_cs ecl291 esl292 ?_
  have hcc : cl291 + kc289 ≤ 601024 := by omega
  have hss : sl292 + ks290 ≤ 7293034 := by omega
  refine lv_istore (lv' := [(6, .int r287), (0, .ref b), (1, .ref l1), (2, .ref l2), (3, .ref l3), (4, .ref l4), (5, .int l5)]) hx hb dL_law_798 hl (by decide) rfl (fun ls hl => ?_)
  refine lv_aload_n hx hb dL_law_800 rfl (lv_at hl 3 rfl) ?_
  refine lv_aload_n hx hb dL_law_801 rfl (lv_at hl 1 rfl) ?_
  refine lv_iload hx hb dL_law_802 (lv_at hl 6 rfl) ?_
  refine lv_iconst (v := 1) hx hb dL_law_804 (by decide) ?_
  refine lv_iadd hx hb dL_law_805 ?_
  obtain ⟨g293, h⟩ := h
  refine va_sld hx hb hXs hbl hbA hS g293 dL_law_806 ?_
  refine lv_aload_n hx hb dL_law_807 rfl (lv_at hl 1 rfl) ?_
  refine lv_iload hx hb dL_law_808 (lv_at hl 6 rfl) ?_
  refine lv_iconst (v := 2) hx hb dL_law_810 (by decide) ?_
  refine lv_iadd hx hb dL_law_811 ?_
  obtain ⟨g294, h⟩ := h
  refine va_sld hx hb hXs hbl hbA hS g294 dL_law_812 ?_
  refine lv_aload_n hx hb dL_law_813 rfl (lv_at hl 1 rfl) ?_
  refine lv_iload hx hb dL_law_814 (lv_at hl 6 rfl) ?_
  refine lv_iconst (v := 3) hx hb dL_law_816 (by decide) ?_
  refine lv_iadd hx hb dL_law_817 ?_
  obtain ⟨g295, h⟩ := h
  refine va_sld hx hb hXs hbl hbA hS g295 dL_law_818 ?_
  obtain ⟨g296, h⟩ := h
  refine xc_i (va_runV (As := [.int (xs (l5 + (1 : Int32)).toNatClampNeg), .int (xs (l5 + (2 : Int32)).toNatClampNeg), .int (xs (l5 + (3 : Int32)).toNatClampNeg)]) (rest := []) ⟨hx, hb, hml, hown, hts⟩ (mt_X6_timeOf l G (s.heap.size) h) (cwV 3 hts gL_law_X6_timeOf rfl rfl rfl (by decide +kernel) ⟨Nat.le_of_ble_eq_true rfl, Nat.le_of_ble_eq_true rfl⟩) (xp_V hbase hh hK hX hS (ci := 6) g296 (by decide) rfl) rfl rfl hl.1 rfl (lv_room (Nat.le_of_ble_eq_true rfl)) dL_law_819 ⟨by show _ ≤ 601024; omega, by show _ ≤ 7293034; omega⟩) hS (fun r297 m298 H locs h hh hS => ?_)
  refine lv_istore (lv' := [(7, .int r297), (6, .int r287), (0, .ref b), (1, .ref l1), (2, .ref l2), (3, .ref l3), (4, .ref l4), (5, .int l5)]) hx hb dL_law_822 hl (by decide) rfl (fun ls hl => ?_)
  refine lv_aload_n hx hb dL_law_824 rfl (lv_at hl 4 rfl) ?_
  obtain ⟨g299, h⟩ := h
  refine xc_i (va_runV (As := []) (rest := []) ⟨hx, hb, hml, hown, hts⟩ (mt_X6_thrown l G (s.heap.size) h) (cwV 0 hts gL_law_X6_thrown rfl rfl rfl (by decide +kernel) ⟨Nat.le_of_ble_eq_true rfl, Nat.le_of_ble_eq_true rfl⟩) (xp_V hbase hh hK hX hS (ci := 6) g299 (by decide) rfl) rfl rfl hl.1 rfl (lv_room (Nat.le_of_ble_eq_true rfl)) dL_law_825 ⟨by show _ ≤ 601024; omega, by show _ ≤ 7293034; omega⟩) hS (fun r300 m301 H locs h hh hS => ?_)
  refine lv_iload hx hb dL_law_828 (lv_at hl 1 rfl) ?_
  refine lv_icmp_eq (tgt := 835) hx hb dL_law_830 (by decide) (fun c302 => ?_) (fun c302 => ?_)
  · replace h := h.1 c302
    refine lv_iload hx hb dL_law_835 (lv_at hl 1 rfl) ?_
    refine lv_if_ne (tgt := 852) hx hb dL_law_837 (by decide) (fun c303 => ?_) (fun c303 => ?_)
    · replace h := h.1 c303
      refine lv_goto (tgt := 2255) hx hb dL_law_852 (by decide) ?_
      obtain ⟨x304, ex304⟩ : ∃ y : Int32, y = l5 + 7 := ⟨_, rfl⟩
      replace h := h x304 ex304
      refine lv_iinc (v := x304) (lv' := [(5, .int x304), (7, .int r297), (6, .int r287), (0, .ref b), (1, .ref l1), (2, .ref l2), (3, .ref l3), (4, .ref l4)]) hx hb dL_law_2255 hl (k := 7) rfl (by rw [ex304]; rfl) (by decide) rfl (fun ls hl => ?_)
      refine lv_goto (tgt := 28) hx hb dL_law_2258 (by decide) ?_
      exact hK9 _ _ _ _ _ _ _ _ _ cl291 sl292 kc289 ks290 hcc hss h hh hS (lv_sub hl [3, 4, 5, 6, 7, 0] rfl)
    · replace h := h.2 c303
      refine lv_aload_n hx hb dL_law_840 rfl (lv_at hl 5 rfl) ?_
      refine lv_iconst (v := 0) hx hb dL_law_841 (by decide) ?_
      obtain ⟨g305, h⟩ := h
      obtain ⟨g306, h⟩ := h
      refine xr_lald hx hb hK hh g305 g306 dL_law_842 ?_
      refine lv_iload hx hb dL_law_843 (lv_at hl 0 rfl) ?_
      refine lv_i2l hx hb dL_law_845 rfl ?_
      refine W.lcmp hx hb dL_law_846 ?_
      refine lv_if_eq (tgt := 852) hx hb dL_law_847 (by decide) (fun c307 => ?_) (fun c307 => ?_)
      · replace h := h.1 c307
        refine lv_goto (tgt := 2255) hx hb dL_law_852 (by decide) ?_
        obtain ⟨x308, ex308⟩ : ∃ y : Int32, y = l5 + 7 := ⟨_, rfl⟩
        replace h := h x308 ex308
        refine lv_iinc (v := x308) (lv' := [(5, .int x308), (7, .int r297), (6, .int r287), (0, .ref b), (1, .ref l1), (2, .ref l2), (3, .ref l3), (4, .ref l4)]) hx hb dL_law_2255 hl (k := 7) rfl (by rw [ex308]; rfl) (by decide) rfl (fun ls hl => ?_)
        refine lv_goto (tgt := 28) hx hb dL_law_2258 (by decide) ?_
        exact hK9 _ _ _ _ _ _ _ _ _ cl291 sl292 kc289 ks290 hcc hss h hh hS (lv_sub hl [3, 4, 5, 6, 7, 0] rfl)
      · replace h := h.2 c307
        refine lv_iconst (v := 0) hx hb dL_law_850 (by decide) ?_
        exact h.elim
  · replace h := h.2 c302
    refine lv_iconst (v := 0) hx hb dL_law_833 (by decide) ?_
    exact h.elim

set_option maxHeartbeats 4000000 in
set_option maxRecDepth 100000 in
theorem bk_L_law_855 {b LL : Nat} {xs : Nat → Int32} {p : Program} {l : Launch} {e : Env} {s : State} {m : MethodId} {below : List Frame} {meth : Method} {c : Code} {G : GG} (C0 : BC p s m #[Value.ref b] meth c G s.heap.size RL cL_law 9 ret wsL_law) (hl9 : l.stackTraces = false) (hXs : va_X b LL xs s s.heap) (hbl : b < s.heap.size)  {K : Nat → Nat → Nat → Nat → Int32 → MM → Nat → Nat → Prop} (hK9 : ∀ (l1 : Nat) (l2 : Nat) (l3 : Nat) (l4 : Nat) (l5 : Int32) (m0 : MM) (H : Heap) (locs : List Loc) (ls : Array Slot) (cl9 sl9 kc ks : Nat) (hcc : cl9 + kc ≤ 601024) (hss : sl9 + ks ≤ 7293034), K l1 l2 l3 l4 l5 m0 kc ks → hp G (xA s.heap.size) m0 H → va_S (xA s.heap.size) s.heap H locs → lv_has ls 9 [(0, .ref b), (1, .ref l1), (2, .ref l2), (3, .ref l3), (4, .ref l4), (5, .int l5)] → W p l e room_1 s m #[Value.ref b] below meth c H locs cl9 sl9 (lw_Z below #[Value.ref b] s) (F0 m 28 ls [])) : ∀ (l1 : Nat) (l2 : Nat) (l3 : Nat) (l4 : Nat) (l5 : Int32) (m0 : MM) (H : Heap) (locs : List Loc) (ls : Array Slot) (cl9 sl9 kc ks : Nat) (hcc : cl9 + kc ≤ 601024) (hss : sl9 + ks ≤ 7293034), wp_L_law_855 xs LL K l1 l2 l3 l4 l5 m0 kc ks → hp G (xA s.heap.size) m0 H → va_S (xA s.heap.size) s.heap H locs → lv_has ls 9 [(0, .ref b), (1, .ref l1), (2, .ref l2), (3, .ref l3), (4, .ref l4), (5, .int l5)] → W p l e room_1 s m #[Value.ref b] below meth c H locs cl9 sl9 (lw_Z below #[Value.ref b] s) (F0 m 855 ls []) := by
  obtain ⟨hx, hb, hr, hml, hown, hts, hlocks, hK, hbase, hX⟩ := id C0
  have hbA : ¬ xA s.heap.size b := Nat.not_le.mpr hbl
  intro l1 l2 l3 l4 l5 m0 H locs ls cl9 sl9 kc ks hcc hss h hh hS hl
  unfold wp_L_law_855 at h
  refine lv_aload_n hx hb dL_law_855 rfl (lv_at hl 1 rfl) ?_
  refine lv_aload_n hx hb dL_law_856 rfl (lv_at hl 0 rfl) ?_
  refine lv_iload hx hb dL_law_857 (lv_at hl 5 rfl) ?_
  refine lv_iconst (v := 1) hx hb dL_law_859 (by decide) ?_
  refine lv_iadd hx hb dL_law_860 ?_
  obtain ⟨g309, h⟩ := h
  refine va_sld hx hb hXs hbl hbA hS g309 dL_law_861 ?_
  refine lv_aload_n hx hb dL_law_862 rfl (lv_at hl 0 rfl) ?_
  refine lv_iload hx hb dL_law_863 (lv_at hl 5 rfl) ?_
  refine lv_iconst (v := 2) hx hb dL_law_865 (by decide) ?_
  refine lv_iadd hx hb dL_law_866 ?_
  obtain ⟨g310, h⟩ := h
  refine va_sld hx hb hXs hbl hbA hS g310 dL_law_867 ?_
  refine lv_aload_n hx hb dL_law_868 rfl (lv_at hl 3 rfl) ?_
  obtain ⟨g311, g312, h⟩ := h
  refine xt_i (vx_runSX (As := [.ref l1, .int (xs (l5 + (1 : Int32)).toNatClampNeg), .int (xs (l5 + (2 : Int32)).toNatClampNeg), .ref l3]) (rest := []) ⟨hx, hb, hml, hown, hts⟩ (mt_L_valueAt l hl9 G (s.heap.size) h) (vx_cwSW 4 hts gL_law_L_valueAt rfl rfl rfl (by decide +kernel) ⟨Nat.le_of_ble_eq_true rfl, Nat.le_of_ble_eq_true rfl⟩) (xp_S hbase hh hK hX hS) rfl rfl hl.1 rfl (lv_room (Nat.le_of_ble_eq_true rfl)) dL_law_869 ⟨by show _ ≤ 601024; omega, by show _ ≤ 7293034; omega⟩) hS (fun k9 m9 H locs q9 ce h hh hS hc9 hv9 hcl9 => h.elim) (fun r313 m314 H locs h hh hS => ?_)
  obtain ⟨kc315, ekc315⟩ : ∃ z : Nat, z = kc - 2 := ⟨_, rfl⟩
  obtain ⟨ks316, eks316⟩ : ∃ z : Nat, z = ks - 12 := ⟨_, rfl⟩
  replace h := h kc315 ks316 ekc315 eks316
  obtain ⟨cl317, ecl317⟩ : ∃ z : Nat, z = cl9 + 2 := ⟨_, rfl⟩
  obtain ⟨sl318, esl318⟩ : ∃ z : Nat, z = sl9 + 12 := ⟨_, rfl⟩
  refine W_cs ecl317 esl318 ?_
  have hcc : cl317 + kc315 ≤ 601024 := by omega
  have hss : sl318 + ks316 ≤ 7293034 := by omega
  refine lv_istore (lv' := [(6, .int r313), (0, .ref b), (1, .ref l1), (2, .ref l2), (3, .ref l3), (4, .ref l4), (5, .int l5)]) hx hb dL_law_872 hl (by decide) rfl (fun ls hl => ?_)
  refine lv_aload_n hx hb dL_law_874 rfl (lv_at hl 3 rfl) ?_
  refine lv_aload_n hx hb dL_law_875 rfl (lv_at hl 1 rfl) ?_
  refine lv_iload hx hb dL_law_876 (lv_at hl 6 rfl) ?_
  refine lv_iconst (v := 1) hx hb dL_law_878 (by decide) ?_
  refine lv_iadd hx hb dL_law_879 ?_
  obtain ⟨g319, h⟩ := h
  refine va_sld hx hb hXs hbl hbA hS g319 dL_law_880 ?_
  refine lv_aload_n hx hb dL_law_881 rfl (lv_at hl 1 rfl) ?_
  refine lv_iload hx hb dL_law_882 (lv_at hl 6 rfl) ?_
  refine lv_iconst (v := 2) hx hb dL_law_884 (by decide) ?_
  refine lv_iadd hx hb dL_law_885 ?_
  obtain ⟨g320, h⟩ := h
  refine va_sld hx hb hXs hbl hbA hS g320 dL_law_886 ?_
  obtain ⟨g321, h⟩ := h
  refine xc_i (va_runV (As := [.int (xs (l5 + (1 : Int32)).toNatClampNeg), .int (xs (l5 + (2 : Int32)).toNatClampNeg)]) (rest := []) ⟨hx, hb, hml, hown, hts⟩ (mt_X6_valueAt l G (s.heap.size) h) (cwV 2 hts gL_law_X6_valueAt rfl rfl rfl (by decide +kernel) ⟨Nat.le_of_ble_eq_true rfl, Nat.le_of_ble_eq_true rfl⟩) (xp_V hbase hh hK hX hS (ci := 6) g321 (by decide) rfl) rfl rfl hl.1 rfl (lv_room (Nat.le_of_ble_eq_true rfl)) dL_law_887 ⟨by show _ ≤ 601024; omega, by show _ ≤ 7293034; omega⟩) hS (fun r322 m323 H locs h hh hS => ?_)
  refine lv_istore (lv' := [(7, .int r322), (6, .int r313), (0, .ref b), (1, .ref l1), (2, .ref l2), (3, .ref l3), (4, .ref l4), (5, .int l5)]) hx hb dL_law_890 hl (by decide) rfl (fun ls hl => ?_)
  refine lv_aload_n hx hb dL_law_892 rfl (lv_at hl 4 rfl) ?_
  obtain ⟨g324, h⟩ := h
  refine xc_i (va_runV (As := []) (rest := []) ⟨hx, hb, hml, hown, hts⟩ (mt_X6_thrown l G (s.heap.size) h) (cwV 0 hts gL_law_X6_thrown rfl rfl rfl (by decide +kernel) ⟨Nat.le_of_ble_eq_true rfl, Nat.le_of_ble_eq_true rfl⟩) (xp_V hbase hh hK hX hS (ci := 6) g324 (by decide) rfl) rfl rfl hl.1 rfl (lv_room (Nat.le_of_ble_eq_true rfl)) dL_law_893 ⟨by show _ ≤ 601024; omega, by show _ ≤ 7293034; omega⟩) hS (fun r325 m326 H locs h hh hS => ?_)
  refine lv_iload hx hb dL_law_896 (lv_at hl 1 rfl) ?_
  refine lv_icmp_eq (tgt := 903) hx hb dL_law_898 (by decide) (fun c327 => ?_) (fun c327 => ?_)
  · replace h := h.1 c327
    refine lv_iload hx hb dL_law_903 (lv_at hl 1 rfl) ?_
    refine lv_if_ne (tgt := 920) hx hb dL_law_905 (by decide) (fun c328 => ?_) (fun c328 => ?_)
    · replace h := h.1 c328
      refine lv_goto (tgt := 2255) hx hb dL_law_920 (by decide) ?_
      obtain ⟨x329, ex329⟩ : ∃ y : Int32, y = l5 + 7 := ⟨_, rfl⟩
      replace h := h x329 ex329
      refine lv_iinc (v := x329) (lv' := [(5, .int x329), (7, .int r322), (6, .int r313), (0, .ref b), (1, .ref l1), (2, .ref l2), (3, .ref l3), (4, .ref l4)]) hx hb dL_law_2255 hl (k := 7) rfl (by rw [ex329]; rfl) (by decide) rfl (fun ls hl => ?_)
      refine lv_goto (tgt := 28) hx hb dL_law_2258 (by decide) ?_
      exact hK9 _ _ _ _ _ _ _ _ _ cl317 sl318 kc315 ks316 hcc hss h hh hS (lv_sub hl [3, 4, 5, 6, 7, 0] rfl)
    · replace h := h.2 c328
      refine lv_aload_n hx hb dL_law_908 rfl (lv_at hl 5 rfl) ?_
      refine lv_iconst (v := 0) hx hb dL_law_909 (by decide) ?_
      obtain ⟨g330, h⟩ := h
      obtain ⟨g331, h⟩ := h
      refine xr_lald hx hb hK hh g330 g331 dL_law_910 ?_
      refine lv_iload hx hb dL_law_911 (lv_at hl 0 rfl) ?_
      refine lv_i2l hx hb dL_law_913 rfl ?_
      refine W.lcmp hx hb dL_law_914 ?_
      refine lv_if_eq (tgt := 920) hx hb dL_law_915 (by decide) (fun c332 => ?_) (fun c332 => ?_)
      · replace h := h.1 c332
        refine lv_goto (tgt := 2255) hx hb dL_law_920 (by decide) ?_
        obtain ⟨x333, ex333⟩ : ∃ y : Int32, y = l5 + 7 := ⟨_, rfl⟩
        replace h := h x333 ex333
        refine lv_iinc (v := x333) (lv' := [(5, .int x333), (7, .int r322), (6, .int r313), (0, .ref b), (1, .ref l1), (2, .ref l2), (3, .ref l3), (4, .ref l4)]) hx hb dL_law_2255 hl (k := 7) rfl (by rw [ex333]; rfl) (by decide) rfl (fun ls hl => ?_)
        refine lv_goto (tgt := 28) hx hb dL_law_2258 (by decide) ?_
        exact hK9 _ _ _ _ _ _ _ _ _ cl317 sl318 kc315 ks316 hcc hss h hh hS (lv_sub hl [3, 4, 5, 6, 7, 0] rfl)
      · replace h := h.2 c332
        refine lv_iconst (v := 0) hx hb dL_law_918 (by decide) ?_
        exact h.elim
  · replace h := h.2 c327
    refine lv_iconst (v := 0) hx hb dL_law_901 (by decide) ?_
    exact h.elim

set_option maxHeartbeats 4000000 in
set_option maxRecDepth 100000 in
theorem bk_L_law_923 {b LL : Nat} {xs : Nat → Int32} {p : Program} {l : Launch} {e : Env} {s : State} {m : MethodId} {below : List Frame} {meth : Method} {c : Code} {G : GG} (C0 : BC p s m #[Value.ref b] meth c G s.heap.size RL cL_law 9 ret wsL_law) (hl9 : l.stackTraces = false) (hXs : va_X b LL xs s s.heap) (hbl : b < s.heap.size)  {K : Nat → Nat → Nat → Nat → Int32 → MM → Nat → Nat → Prop} (hK9 : ∀ (l1 : Nat) (l2 : Nat) (l3 : Nat) (l4 : Nat) (l5 : Int32) (m0 : MM) (H : Heap) (locs : List Loc) (ls : Array Slot) (cl9 sl9 kc ks : Nat) (hcc : cl9 + kc ≤ 601024) (hss : sl9 + ks ≤ 7293034), K l1 l2 l3 l4 l5 m0 kc ks → hp G (xA s.heap.size) m0 H → va_S (xA s.heap.size) s.heap H locs → lv_has ls 9 [(0, .ref b), (1, .ref l1), (2, .ref l2), (3, .ref l3), (4, .ref l4), (5, .int l5)] → W p l e room_1 s m #[Value.ref b] below meth c H locs cl9 sl9 (lw_Z below #[Value.ref b] s) (F0 m 28 ls [])) : ∀ (l1 : Nat) (l2 : Nat) (l3 : Nat) (l4 : Nat) (l5 : Int32) (m0 : MM) (H : Heap) (locs : List Loc) (ls : Array Slot) (cl9 sl9 kc ks : Nat) (hcc : cl9 + kc ≤ 601024) (hss : sl9 + ks ≤ 7293034), wp_L_law_923 xs LL K l1 l2 l3 l4 l5 m0 kc ks → hp G (xA s.heap.size) m0 H → va_S (xA s.heap.size) s.heap H locs → lv_has ls 9 [(0, .ref b), (1, .ref l1), (2, .ref l2), (3, .ref l3), (4, .ref l4), (5, .int l5)] → W p l e room_1 s m #[Value.ref b] below meth c H locs cl9 sl9 (lw_Z below #[Value.ref b] s) (F0 m 923 ls []) := by
  obtain ⟨hx, hb, hr, hml, hown, hts, hlocks, hK, hbase, hX⟩ := id C0
  have hbA : ¬ xA s.heap.size b := Nat.not_le.mpr hbl
  intro l1 l2 l3 l4 l5 m0 H locs ls cl9 sl9 kc ks hcc hss h hh hS hl
  unfold wp_L_law_923 at h
  refine lv_aload_n hx hb dL_law_923 rfl (lv_at hl 1 rfl) ?_
  refine lv_aload_n hx hb dL_law_924 rfl (lv_at hl 0 rfl) ?_
  refine lv_iload hx hb dL_law_925 (lv_at hl 5 rfl) ?_
  refine lv_iconst (v := 1) hx hb dL_law_927 (by decide) ?_
  refine lv_iadd hx hb dL_law_928 ?_
  obtain ⟨g334, h⟩ := h
  refine va_sld hx hb hXs hbl hbA hS g334 dL_law_929 ?_
  refine lv_aload_n hx hb dL_law_930 rfl (lv_at hl 0 rfl) ?_
  refine lv_iload hx hb dL_law_931 (lv_at hl 5 rfl) ?_
  refine lv_iconst (v := 2) hx hb dL_law_933 (by decide) ?_
  refine lv_iadd hx hb dL_law_934 ?_
  obtain ⟨g335, h⟩ := h
  refine va_sld hx hb hXs hbl hbA hS g335 dL_law_935 ?_
  refine lv_aload_n hx hb dL_law_936 rfl (lv_at hl 0 rfl) ?_
  refine lv_iload hx hb dL_law_937 (lv_at hl 5 rfl) ?_
  refine lv_iconst (v := 3) hx hb dL_law_939 (by decide) ?_
  refine lv_iadd hx hb dL_law_940 ?_
  obtain ⟨g336, h⟩ := h
  refine va_sld hx hb hXs hbl hbA hS g336 dL_law_941 ?_
  refine lv_aload_n hx hb dL_law_942 rfl (lv_at hl 3 rfl) ?_
  obtain ⟨g337, g338, h⟩ := h
  refine xt_i (vx_runSX (As := [.ref l1, .int (xs (l5 + (1 : Int32)).toNatClampNeg), .int (xs (l5 + (2 : Int32)).toNatClampNeg), .int (xs (l5 + (3 : Int32)).toNatClampNeg), .ref l3]) (rest := []) ⟨hx, hb, hml, hown, hts⟩ (mt_L_hasRollup l hl9 G (s.heap.size) h) (vx_cwSW 5 hts gL_law_L_hasRollup rfl rfl rfl (by decide +kernel) ⟨Nat.le_of_ble_eq_true rfl, Nat.le_of_ble_eq_true rfl⟩) (xp_S hbase hh hK hX hS) rfl rfl hl.1 rfl (lv_room (Nat.le_of_ble_eq_true rfl)) dL_law_943 ⟨by show _ ≤ 601024; omega, by show _ ≤ 7293034; omega⟩) hS (fun k9 m9 H locs q9 ce h hh hS hc9 hv9 hcl9 => h.elim) (fun r339 m340 H locs h hh hS => ?_)
  obtain ⟨kc341, ekc341⟩ : ∃ z : Nat, z = kc - 3 := ⟨_, rfl⟩
  obtain ⟨ks342, eks342⟩ : ∃ z : Nat, z = ks - 18 := ⟨_, rfl⟩
  replace h := h kc341 ks342 ekc341 eks342
  obtain ⟨cl343, ecl343⟩ : ∃ z : Nat, z = cl9 + 3 := ⟨_, rfl⟩
  obtain ⟨sl344, esl344⟩ : ∃ z : Nat, z = sl9 + 18 := ⟨_, rfl⟩
  refine W_cs ecl343 esl344 ?_
  have hcc : cl343 + kc341 ≤ 601024 := by omega
  have hss : sl344 + ks342 ≤ 7293034 := by omega
  refine lv_istore (lv' := [(6, .int r339), (0, .ref b), (1, .ref l1), (2, .ref l2), (3, .ref l3), (4, .ref l4), (5, .int l5)]) hx hb dL_law_946 hl (by decide) rfl (fun ls hl => ?_)
  refine lv_aload_n hx hb dL_law_948 rfl (lv_at hl 3 rfl) ?_
  refine lv_aload_n hx hb dL_law_949 rfl (lv_at hl 1 rfl) ?_
  refine lv_iload hx hb dL_law_950 (lv_at hl 6 rfl) ?_
  refine lv_iconst (v := 1) hx hb dL_law_952 (by decide) ?_
  refine lv_iadd hx hb dL_law_953 ?_
  obtain ⟨g345, h⟩ := h
  refine va_sld hx hb hXs hbl hbA hS g345 dL_law_954 ?_
  refine lv_aload_n hx hb dL_law_955 rfl (lv_at hl 1 rfl) ?_
  refine lv_iload hx hb dL_law_956 (lv_at hl 6 rfl) ?_
  refine lv_iconst (v := 2) hx hb dL_law_958 (by decide) ?_
  refine lv_iadd hx hb dL_law_959 ?_
  obtain ⟨g346, h⟩ := h
  refine va_sld hx hb hXs hbl hbA hS g346 dL_law_960 ?_
  refine lv_aload_n hx hb dL_law_961 rfl (lv_at hl 1 rfl) ?_
  refine lv_iload hx hb dL_law_962 (lv_at hl 6 rfl) ?_
  refine lv_iconst (v := 3) hx hb dL_law_964 (by decide) ?_
  refine lv_iadd hx hb dL_law_965 ?_
  obtain ⟨g347, h⟩ := h
  refine va_sld hx hb hXs hbl hbA hS g347 dL_law_966 ?_
  obtain ⟨g348, h⟩ := h
  refine xc_i (va_runV (As := [.int (xs (l5 + (1 : Int32)).toNatClampNeg), .int (xs (l5 + (2 : Int32)).toNatClampNeg), .int (xs (l5 + (3 : Int32)).toNatClampNeg)]) (rest := []) ⟨hx, hb, hml, hown, hts⟩ (mt_X6_hasRollup l G (s.heap.size) h) (cwV 3 hts gL_law_X6_hasRollup rfl rfl rfl (by decide +kernel) ⟨Nat.le_of_ble_eq_true rfl, Nat.le_of_ble_eq_true rfl⟩) (xp_V hbase hh hK hX hS (ci := 6) g348 (by decide) rfl) rfl rfl hl.1 rfl (lv_room (Nat.le_of_ble_eq_true rfl)) dL_law_967 ⟨by show _ ≤ 601024; omega, by show _ ≤ 7293034; omega⟩) hS (fun r349 m350 H locs h hh hS => ?_)
  refine lv_istore (lv' := [(7, .int r349), (6, .int r339), (0, .ref b), (1, .ref l1), (2, .ref l2), (3, .ref l3), (4, .ref l4), (5, .int l5)]) hx hb dL_law_970 hl (by decide) rfl (fun ls hl => ?_)
  refine lv_aload_n hx hb dL_law_972 rfl (lv_at hl 4 rfl) ?_
  obtain ⟨g351, h⟩ := h
  refine xc_i (va_runV (As := []) (rest := []) ⟨hx, hb, hml, hown, hts⟩ (mt_X6_thrown l G (s.heap.size) h) (cwV 0 hts gL_law_X6_thrown rfl rfl rfl (by decide +kernel) ⟨Nat.le_of_ble_eq_true rfl, Nat.le_of_ble_eq_true rfl⟩) (xp_V hbase hh hK hX hS (ci := 6) g351 (by decide) rfl) rfl rfl hl.1 rfl (lv_room (Nat.le_of_ble_eq_true rfl)) dL_law_973 ⟨by show _ ≤ 601024; omega, by show _ ≤ 7293034; omega⟩) hS (fun r352 m353 H locs h hh hS => ?_)
  refine lv_iload hx hb dL_law_976 (lv_at hl 1 rfl) ?_
  refine lv_icmp_eq (tgt := 983) hx hb dL_law_978 (by decide) (fun c354 => ?_) (fun c354 => ?_)
  · replace h := h.1 c354
    refine lv_iload hx hb dL_law_983 (lv_at hl 1 rfl) ?_
    refine lv_if_ne (tgt := 1007) hx hb dL_law_985 (by decide) (fun c355 => ?_) (fun c355 => ?_)
    · replace h := h.1 c355
      refine lv_goto (tgt := 2255) hx hb dL_law_1007 (by decide) ?_
      obtain ⟨x356, ex356⟩ : ∃ y : Int32, y = l5 + 7 := ⟨_, rfl⟩
      replace h := h x356 ex356
      refine lv_iinc (v := x356) (lv' := [(5, .int x356), (7, .int r349), (6, .int r339), (0, .ref b), (1, .ref l1), (2, .ref l2), (3, .ref l3), (4, .ref l4)]) hx hb dL_law_2255 hl (k := 7) rfl (by rw [ex356]; rfl) (by decide) rfl (fun ls hl => ?_)
      refine lv_goto (tgt := 28) hx hb dL_law_2258 (by decide) ?_
      exact hK9 _ _ _ _ _ _ _ _ _ cl343 sl344 kc341 ks342 hcc hss h hh hS (lv_sub hl [3, 4, 5, 6, 7, 0] rfl)
    · replace h := h.2 c355
      refine lv_aload_n hx hb dL_law_988 rfl (lv_at hl 5 rfl) ?_
      refine lv_iconst (v := 0) hx hb dL_law_989 (by decide) ?_
      obtain ⟨g357, h⟩ := h
      obtain ⟨g358, h⟩ := h
      refine xr_lald hx hb hK hh g357 g358 dL_law_990 ?_
      refine lv_iload hx hb dL_law_991 (lv_at hl 0 rfl) ?_
      refine lv_if_eq (tgt := 1000) hx hb dL_law_993 (by decide) (fun c359 => ?_) (fun c359 => ?_)
      · replace h := h.1 c359
        refine lv_lconst (v := 0) hx hb dL_law_1000 (by decide) ?_
        refine W.lcmp hx hb dL_law_1001 ?_
        refine lv_if_eq (tgt := 1007) hx hb dL_law_1002 (by decide) (fun c360 => ?_) (fun c360 => ?_)
        · replace h := h.1 c360
          refine lv_goto (tgt := 2255) hx hb dL_law_1007 (by decide) ?_
          obtain ⟨x361, ex361⟩ : ∃ y : Int32, y = l5 + 7 := ⟨_, rfl⟩
          replace h := h x361 ex361
          refine lv_iinc (v := x361) (lv' := [(5, .int x361), (7, .int r349), (6, .int r339), (0, .ref b), (1, .ref l1), (2, .ref l2), (3, .ref l3), (4, .ref l4)]) hx hb dL_law_2255 hl (k := 7) rfl (by rw [ex361]; rfl) (by decide) rfl (fun ls hl => ?_)
          refine lv_goto (tgt := 28) hx hb dL_law_2258 (by decide) ?_
          exact hK9 _ _ _ _ _ _ _ _ _ cl343 sl344 kc341 ks342 hcc hss h hh hS (lv_sub hl [3, 4, 5, 6, 7, 0] rfl)
        · replace h := h.2 c360
          refine lv_iconst (v := 0) hx hb dL_law_1005 (by decide) ?_
          exact h.elim
      · replace h := h.2 c359
        refine lv_lconst (v := 1) hx hb dL_law_996 (by decide) ?_
        refine lv_goto (tgt := 1001) hx hb dL_law_997 (by decide) ?_
        refine W.lcmp hx hb dL_law_1001 ?_
        refine lv_if_eq (tgt := 1007) hx hb dL_law_1002 (by decide) (fun c362 => ?_) (fun c362 => ?_)
        · replace h := h.1 c362
          refine lv_goto (tgt := 2255) hx hb dL_law_1007 (by decide) ?_
          obtain ⟨x363, ex363⟩ : ∃ y : Int32, y = l5 + 7 := ⟨_, rfl⟩
          replace h := h x363 ex363
          refine lv_iinc (v := x363) (lv' := [(5, .int x363), (7, .int r349), (6, .int r339), (0, .ref b), (1, .ref l1), (2, .ref l2), (3, .ref l3), (4, .ref l4)]) hx hb dL_law_2255 hl (k := 7) rfl (by rw [ex363]; rfl) (by decide) rfl (fun ls hl => ?_)
          refine lv_goto (tgt := 28) hx hb dL_law_2258 (by decide) ?_
          exact hK9 _ _ _ _ _ _ _ _ _ cl343 sl344 kc341 ks342 hcc hss h hh hS (lv_sub hl [3, 4, 5, 6, 7, 0] rfl)
        · replace h := h.2 c362
          refine lv_iconst (v := 0) hx hb dL_law_1005 (by decide) ?_
          exact h.elim
  · replace h := h.2 c354
    refine lv_iconst (v := 0) hx hb dL_law_981 (by decide) ?_
    exact h.elim

set_option maxHeartbeats 4000000 in
set_option maxRecDepth 100000 in
theorem bk_L_law_1010 {b LL : Nat} {xs : Nat → Int32} {p : Program} {l : Launch} {e : Env} {s : State} {m : MethodId} {below : List Frame} {meth : Method} {c : Code} {G : GG} (C0 : BC p s m #[Value.ref b] meth c G s.heap.size RL cL_law 9 ret wsL_law) (hl9 : l.stackTraces = false) (hXs : va_X b LL xs s s.heap) (hbl : b < s.heap.size)  {K : Nat → Nat → Nat → Nat → Int32 → MM → Nat → Nat → Prop} (hK9 : ∀ (l1 : Nat) (l2 : Nat) (l3 : Nat) (l4 : Nat) (l5 : Int32) (m0 : MM) (H : Heap) (locs : List Loc) (ls : Array Slot) (cl9 sl9 kc ks : Nat) (hcc : cl9 + kc ≤ 601024) (hss : sl9 + ks ≤ 7293034), K l1 l2 l3 l4 l5 m0 kc ks → hp G (xA s.heap.size) m0 H → va_S (xA s.heap.size) s.heap H locs → lv_has ls 9 [(0, .ref b), (1, .ref l1), (2, .ref l2), (3, .ref l3), (4, .ref l4), (5, .int l5)] → W p l e room_1 s m #[Value.ref b] below meth c H locs cl9 sl9 (lw_Z below #[Value.ref b] s) (F0 m 28 ls [])) : ∀ (l1 : Nat) (l2 : Nat) (l3 : Nat) (l4 : Nat) (l5 : Int32) (m0 : MM) (H : Heap) (locs : List Loc) (ls : Array Slot) (cl9 sl9 kc ks : Nat) (hcc : cl9 + kc ≤ 601024) (hss : sl9 + ks ≤ 7293034), wp_L_law_1010 xs LL K l1 l2 l3 l4 l5 m0 kc ks → hp G (xA s.heap.size) m0 H → va_S (xA s.heap.size) s.heap H locs → lv_has ls 9 [(0, .ref b), (1, .ref l1), (2, .ref l2), (3, .ref l3), (4, .ref l4), (5, .int l5)] → W p l e room_1 s m #[Value.ref b] below meth c H locs cl9 sl9 (lw_Z below #[Value.ref b] s) (F0 m 1010 ls []) := by
  obtain ⟨hx, hb, hr, hml, hown, hts, hlocks, hK, hbase, hX⟩ := id C0
  have hbA : ¬ xA s.heap.size b := Nat.not_le.mpr hbl
  intro l1 l2 l3 l4 l5 m0 H locs ls cl9 sl9 kc ks hcc hss h hh hS hl
  unfold wp_L_law_1010 at h
  refine lv_aload_n hx hb dL_law_1010 rfl (lv_at hl 1 rfl) ?_
  refine lv_aload_n hx hb dL_law_1011 rfl (lv_at hl 0 rfl) ?_
  refine lv_iload hx hb dL_law_1012 (lv_at hl 5 rfl) ?_
  refine lv_iconst (v := 1) hx hb dL_law_1014 (by decide) ?_
  refine lv_iadd hx hb dL_law_1015 ?_
  obtain ⟨g364, h⟩ := h
  refine va_sld hx hb hXs hbl hbA hS g364 dL_law_1016 ?_
  refine lv_aload_n hx hb dL_law_1017 rfl (lv_at hl 0 rfl) ?_
  refine lv_iload hx hb dL_law_1018 (lv_at hl 5 rfl) ?_
  refine lv_iconst (v := 2) hx hb dL_law_1020 (by decide) ?_
  refine lv_iadd hx hb dL_law_1021 ?_
  obtain ⟨g365, h⟩ := h
  refine va_sld hx hb hXs hbl hbA hS g365 dL_law_1022 ?_
  refine lv_aload_n hx hb dL_law_1023 rfl (lv_at hl 0 rfl) ?_
  refine lv_iload hx hb dL_law_1024 (lv_at hl 5 rfl) ?_
  refine lv_iconst (v := 3) hx hb dL_law_1026 (by decide) ?_
  refine lv_iadd hx hb dL_law_1027 ?_
  obtain ⟨g366, h⟩ := h
  refine va_sld hx hb hXs hbl hbA hS g366 dL_law_1028 ?_
  refine lv_aload_n hx hb dL_law_1029 rfl (lv_at hl 3 rfl) ?_
  obtain ⟨g367, g368, h⟩ := h
  refine xt_i (vx_runSX (As := [.ref l1, .int (xs (l5 + (1 : Int32)).toNatClampNeg), .int (xs (l5 + (2 : Int32)).toNatClampNeg), .int (xs (l5 + (3 : Int32)).toNatClampNeg), .ref l3]) (rest := []) ⟨hx, hb, hml, hown, hts⟩ (mt_L_count l hl9 G (s.heap.size) h) (vx_cwSW 5 hts gL_law_L_count rfl rfl rfl (by decide +kernel) ⟨Nat.le_of_ble_eq_true rfl, Nat.le_of_ble_eq_true rfl⟩) (xp_S hbase hh hK hX hS) rfl rfl hl.1 rfl (lv_room (Nat.le_of_ble_eq_true rfl)) dL_law_1030 ⟨by show _ ≤ 601024; omega, by show _ ≤ 7293034; omega⟩) hS (fun k9 m9 H locs q9 ce h hh hS hc9 hv9 hcl9 => h.elim) (fun r369 m370 H locs h hh hS => ?_)
  obtain ⟨kc371, ekc371⟩ : ∃ z : Nat, z = kc - 4 := ⟨_, rfl⟩
  obtain ⟨ks372, eks372⟩ : ∃ z : Nat, z = ks - 24 := ⟨_, rfl⟩
  replace h := h kc371 ks372 ekc371 eks372
  obtain ⟨cl373, ecl373⟩ : ∃ z : Nat, z = cl9 + 4 := ⟨_, rfl⟩
  obtain ⟨sl374, esl374⟩ : ∃ z : Nat, z = sl9 + 24 := ⟨_, rfl⟩
  refine W_cs ecl373 esl374 ?_
  have hcc : cl373 + kc371 ≤ 601024 := by omega
  have hss : sl374 + ks372 ≤ 7293034 := by omega
  refine lv_istore (lv' := [(6, .int r369), (0, .ref b), (1, .ref l1), (2, .ref l2), (3, .ref l3), (4, .ref l4), (5, .int l5)]) hx hb dL_law_1033 hl (by decide) rfl (fun ls hl => ?_)
  refine lv_aload_n hx hb dL_law_1035 rfl (lv_at hl 3 rfl) ?_
  refine lv_aload_n hx hb dL_law_1036 rfl (lv_at hl 1 rfl) ?_
  refine lv_iload hx hb dL_law_1037 (lv_at hl 6 rfl) ?_
  refine lv_iconst (v := 1) hx hb dL_law_1039 (by decide) ?_
  refine lv_iadd hx hb dL_law_1040 ?_
  obtain ⟨g375, h⟩ := h
  refine va_sld hx hb hXs hbl hbA hS g375 dL_law_1041 ?_
  refine lv_aload_n hx hb dL_law_1042 rfl (lv_at hl 1 rfl) ?_
  refine lv_iload hx hb dL_law_1043 (lv_at hl 6 rfl) ?_
  refine lv_iconst (v := 2) hx hb dL_law_1045 (by decide) ?_
  refine lv_iadd hx hb dL_law_1046 ?_
  obtain ⟨g376, h⟩ := h
  refine va_sld hx hb hXs hbl hbA hS g376 dL_law_1047 ?_
  refine lv_aload_n hx hb dL_law_1048 rfl (lv_at hl 1 rfl) ?_
  refine lv_iload hx hb dL_law_1049 (lv_at hl 6 rfl) ?_
  refine lv_iconst (v := 3) hx hb dL_law_1051 (by decide) ?_
  refine lv_iadd hx hb dL_law_1052 ?_
  obtain ⟨g377, h⟩ := h
  refine va_sld hx hb hXs hbl hbA hS g377 dL_law_1053 ?_
  obtain ⟨g378, h⟩ := h
  refine xc_i (va_runV (As := [.int (xs (l5 + (1 : Int32)).toNatClampNeg), .int (xs (l5 + (2 : Int32)).toNatClampNeg), .int (xs (l5 + (3 : Int32)).toNatClampNeg)]) (rest := []) ⟨hx, hb, hml, hown, hts⟩ (mt_X6_count l G (s.heap.size) h) (cwV 3 hts gL_law_X6_count rfl rfl rfl (by decide +kernel) ⟨Nat.le_of_ble_eq_true rfl, Nat.le_of_ble_eq_true rfl⟩) (xp_V hbase hh hK hX hS (ci := 6) g378 (by decide) rfl) rfl rfl hl.1 rfl (lv_room (Nat.le_of_ble_eq_true rfl)) dL_law_1054 ⟨by show _ ≤ 601024; omega, by show _ ≤ 7293034; omega⟩) hS (fun r379 m380 H locs h hh hS => ?_)
  refine lv_istore (lv' := [(7, .int r379), (6, .int r369), (0, .ref b), (1, .ref l1), (2, .ref l2), (3, .ref l3), (4, .ref l4), (5, .int l5)]) hx hb dL_law_1057 hl (by decide) rfl (fun ls hl => ?_)
  refine lv_aload_n hx hb dL_law_1059 rfl (lv_at hl 4 rfl) ?_
  obtain ⟨g381, h⟩ := h
  refine xc_i (va_runV (As := []) (rest := []) ⟨hx, hb, hml, hown, hts⟩ (mt_X6_thrown l G (s.heap.size) h) (cwV 0 hts gL_law_X6_thrown rfl rfl rfl (by decide +kernel) ⟨Nat.le_of_ble_eq_true rfl, Nat.le_of_ble_eq_true rfl⟩) (xp_V hbase hh hK hX hS (ci := 6) g381 (by decide) rfl) rfl rfl hl.1 rfl (lv_room (Nat.le_of_ble_eq_true rfl)) dL_law_1060 ⟨by show _ ≤ 601024; omega, by show _ ≤ 7293034; omega⟩) hS (fun r382 m383 H locs h hh hS => ?_)
  refine lv_iload hx hb dL_law_1063 (lv_at hl 1 rfl) ?_
  refine lv_icmp_eq (tgt := 1070) hx hb dL_law_1065 (by decide) (fun c384 => ?_) (fun c384 => ?_)
  · replace h := h.1 c384
    refine lv_iload hx hb dL_law_1070 (lv_at hl 1 rfl) ?_
    refine lv_if_ne (tgt := 1087) hx hb dL_law_1072 (by decide) (fun c385 => ?_) (fun c385 => ?_)
    · replace h := h.1 c385
      refine lv_goto (tgt := 2255) hx hb dL_law_1087 (by decide) ?_
      obtain ⟨x386, ex386⟩ : ∃ y : Int32, y = l5 + 7 := ⟨_, rfl⟩
      replace h := h x386 ex386
      refine lv_iinc (v := x386) (lv' := [(5, .int x386), (7, .int r379), (6, .int r369), (0, .ref b), (1, .ref l1), (2, .ref l2), (3, .ref l3), (4, .ref l4)]) hx hb dL_law_2255 hl (k := 7) rfl (by rw [ex386]; rfl) (by decide) rfl (fun ls hl => ?_)
      refine lv_goto (tgt := 28) hx hb dL_law_2258 (by decide) ?_
      exact hK9 _ _ _ _ _ _ _ _ _ cl373 sl374 kc371 ks372 hcc hss h hh hS (lv_sub hl [3, 4, 5, 6, 7, 0] rfl)
    · replace h := h.2 c385
      refine lv_aload_n hx hb dL_law_1075 rfl (lv_at hl 5 rfl) ?_
      refine lv_iconst (v := 0) hx hb dL_law_1076 (by decide) ?_
      obtain ⟨g387, h⟩ := h
      obtain ⟨g388, h⟩ := h
      refine xr_lald hx hb hK hh g387 g388 dL_law_1077 ?_
      refine lv_iload hx hb dL_law_1078 (lv_at hl 0 rfl) ?_
      refine lv_i2l hx hb dL_law_1080 rfl ?_
      refine W.lcmp hx hb dL_law_1081 ?_
      refine lv_if_eq (tgt := 1087) hx hb dL_law_1082 (by decide) (fun c389 => ?_) (fun c389 => ?_)
      · replace h := h.1 c389
        refine lv_goto (tgt := 2255) hx hb dL_law_1087 (by decide) ?_
        obtain ⟨x390, ex390⟩ : ∃ y : Int32, y = l5 + 7 := ⟨_, rfl⟩
        replace h := h x390 ex390
        refine lv_iinc (v := x390) (lv' := [(5, .int x390), (7, .int r379), (6, .int r369), (0, .ref b), (1, .ref l1), (2, .ref l2), (3, .ref l3), (4, .ref l4)]) hx hb dL_law_2255 hl (k := 7) rfl (by rw [ex390]; rfl) (by decide) rfl (fun ls hl => ?_)
        refine lv_goto (tgt := 28) hx hb dL_law_2258 (by decide) ?_
        exact hK9 _ _ _ _ _ _ _ _ _ cl373 sl374 kc371 ks372 hcc hss h hh hS (lv_sub hl [3, 4, 5, 6, 7, 0] rfl)
      · replace h := h.2 c389
        refine lv_iconst (v := 0) hx hb dL_law_1085 (by decide) ?_
        exact h.elim
  · replace h := h.2 c384
    refine lv_iconst (v := 0) hx hb dL_law_1068 (by decide) ?_
    exact h.elim

set_option maxHeartbeats 4000000 in
set_option maxRecDepth 100000 in
theorem bk_L_law_1090 {b LL : Nat} {xs : Nat → Int32} {p : Program} {l : Launch} {e : Env} {s : State} {m : MethodId} {below : List Frame} {meth : Method} {c : Code} {G : GG} (C0 : BC p s m #[Value.ref b] meth c G s.heap.size RL cL_law 9 ret wsL_law) (hl9 : l.stackTraces = false) (hXs : va_X b LL xs s s.heap) (hbl : b < s.heap.size)  {K : Nat → Nat → Nat → Nat → Int32 → MM → Nat → Nat → Prop} (hK9 : ∀ (l1 : Nat) (l2 : Nat) (l3 : Nat) (l4 : Nat) (l5 : Int32) (m0 : MM) (H : Heap) (locs : List Loc) (ls : Array Slot) (cl9 sl9 kc ks : Nat) (hcc : cl9 + kc ≤ 601024) (hss : sl9 + ks ≤ 7293034), K l1 l2 l3 l4 l5 m0 kc ks → hp G (xA s.heap.size) m0 H → va_S (xA s.heap.size) s.heap H locs → lv_has ls 9 [(0, .ref b), (1, .ref l1), (2, .ref l2), (3, .ref l3), (4, .ref l4), (5, .int l5)] → W p l e room_1 s m #[Value.ref b] below meth c H locs cl9 sl9 (lw_Z below #[Value.ref b] s) (F0 m 28 ls [])) : ∀ (l1 : Nat) (l2 : Nat) (l3 : Nat) (l4 : Nat) (l5 : Int32) (m0 : MM) (H : Heap) (locs : List Loc) (ls : Array Slot) (cl9 sl9 kc ks : Nat) (hcc : cl9 + kc ≤ 601024) (hss : sl9 + ks ≤ 7293034), wp_L_law_1090 xs LL K l1 l2 l3 l4 l5 m0 kc ks → hp G (xA s.heap.size) m0 H → va_S (xA s.heap.size) s.heap H locs → lv_has ls 9 [(0, .ref b), (1, .ref l1), (2, .ref l2), (3, .ref l3), (4, .ref l4), (5, .int l5)] → W p l e room_1 s m #[Value.ref b] below meth c H locs cl9 sl9 (lw_Z below #[Value.ref b] s) (F0 m 1090 ls []) := by
  obtain ⟨hx, hb, hr, hml, hown, hts, hlocks, hK, hbase, hX⟩ := id C0
  have hbA : ¬ xA s.heap.size b := Nat.not_le.mpr hbl
  intro l1 l2 l3 l4 l5 m0 H locs ls cl9 sl9 kc ks hcc hss h hh hS hl
  unfold wp_L_law_1090 at h
  refine lv_aload_n hx hb dL_law_1090 rfl (lv_at hl 1 rfl) ?_
  refine lv_aload_n hx hb dL_law_1091 rfl (lv_at hl 0 rfl) ?_
  refine lv_iload hx hb dL_law_1092 (lv_at hl 5 rfl) ?_
  refine lv_iconst (v := 1) hx hb dL_law_1094 (by decide) ?_
  refine lv_iadd hx hb dL_law_1095 ?_
  obtain ⟨g391, h⟩ := h
  refine va_sld hx hb hXs hbl hbA hS g391 dL_law_1096 ?_
  refine lv_aload_n hx hb dL_law_1097 rfl (lv_at hl 0 rfl) ?_
  refine lv_iload hx hb dL_law_1098 (lv_at hl 5 rfl) ?_
  refine lv_iconst (v := 2) hx hb dL_law_1100 (by decide) ?_
  refine lv_iadd hx hb dL_law_1101 ?_
  obtain ⟨g392, h⟩ := h
  refine va_sld hx hb hXs hbl hbA hS g392 dL_law_1102 ?_
  refine lv_aload_n hx hb dL_law_1103 rfl (lv_at hl 0 rfl) ?_
  refine lv_iload hx hb dL_law_1104 (lv_at hl 5 rfl) ?_
  refine lv_iconst (v := 3) hx hb dL_law_1106 (by decide) ?_
  refine lv_iadd hx hb dL_law_1107 ?_
  obtain ⟨g393, h⟩ := h
  refine va_sld hx hb hXs hbl hbA hS g393 dL_law_1108 ?_
  refine lv_aload_n hx hb dL_law_1109 rfl (lv_at hl 3 rfl) ?_
  obtain ⟨g394, g395, h⟩ := h
  refine xt_i (vx_runSX (As := [.ref l1, .int (xs (l5 + (1 : Int32)).toNatClampNeg), .int (xs (l5 + (2 : Int32)).toNatClampNeg), .int (xs (l5 + (3 : Int32)).toNatClampNeg), .ref l3]) (rest := []) ⟨hx, hb, hml, hown, hts⟩ (mt_L_sum l hl9 G (s.heap.size) h) (vx_cwSW 5 hts gL_law_L_sum rfl rfl rfl (by decide +kernel) ⟨Nat.le_of_ble_eq_true rfl, Nat.le_of_ble_eq_true rfl⟩) (xp_S hbase hh hK hX hS) rfl rfl hl.1 rfl (lv_room (Nat.le_of_ble_eq_true rfl)) dL_law_1110 ⟨by show _ ≤ 601024; omega, by show _ ≤ 7293034; omega⟩) hS (fun k9 m9 H locs q9 ce h hh hS hc9 hv9 hcl9 => h.elim) (fun r396 m397 H locs h hh hS => ?_)
  obtain ⟨kc398, ekc398⟩ : ∃ z : Nat, z = kc - 4 := ⟨_, rfl⟩
  obtain ⟨ks399, eks399⟩ : ∃ z : Nat, z = ks - 24 := ⟨_, rfl⟩
  replace h := h kc398 ks399 ekc398 eks399
  obtain ⟨cl400, ecl400⟩ : ∃ z : Nat, z = cl9 + 4 := ⟨_, rfl⟩
  obtain ⟨sl401, esl401⟩ : ∃ z : Nat, z = sl9 + 24 := ⟨_, rfl⟩
  refine W_cs ecl400 esl401 ?_
  have hcc : cl400 + kc398 ≤ 601024 := by omega
  have hss : sl401 + ks399 ≤ 7293034 := by omega
  refine lv_istore (lv' := [(6, .int r396), (0, .ref b), (1, .ref l1), (2, .ref l2), (3, .ref l3), (4, .ref l4), (5, .int l5)]) hx hb dL_law_1113 hl (by decide) rfl (fun ls hl => ?_)
  refine lv_aload_n hx hb dL_law_1115 rfl (lv_at hl 3 rfl) ?_
  refine lv_aload_n hx hb dL_law_1116 rfl (lv_at hl 1 rfl) ?_
  refine lv_iload hx hb dL_law_1117 (lv_at hl 6 rfl) ?_
  refine lv_iconst (v := 1) hx hb dL_law_1119 (by decide) ?_
  refine lv_iadd hx hb dL_law_1120 ?_
  obtain ⟨g402, h⟩ := h
  refine va_sld hx hb hXs hbl hbA hS g402 dL_law_1121 ?_
  refine lv_aload_n hx hb dL_law_1122 rfl (lv_at hl 1 rfl) ?_
  refine lv_iload hx hb dL_law_1123 (lv_at hl 6 rfl) ?_
  refine lv_iconst (v := 2) hx hb dL_law_1125 (by decide) ?_
  refine lv_iadd hx hb dL_law_1126 ?_
  obtain ⟨g403, h⟩ := h
  refine va_sld hx hb hXs hbl hbA hS g403 dL_law_1127 ?_
  refine lv_aload_n hx hb dL_law_1128 rfl (lv_at hl 1 rfl) ?_
  refine lv_iload hx hb dL_law_1129 (lv_at hl 6 rfl) ?_
  refine lv_iconst (v := 3) hx hb dL_law_1131 (by decide) ?_
  refine lv_iadd hx hb dL_law_1132 ?_
  obtain ⟨g404, h⟩ := h
  refine va_sld hx hb hXs hbl hbA hS g404 dL_law_1133 ?_
  obtain ⟨g405, h⟩ := h
  refine xc_l (va_runV (As := [.int (xs (l5 + (1 : Int32)).toNatClampNeg), .int (xs (l5 + (2 : Int32)).toNatClampNeg), .int (xs (l5 + (3 : Int32)).toNatClampNeg)]) (rest := []) ⟨hx, hb, hml, hown, hts⟩ (mt_X6_sum l G (s.heap.size) h) (cwV 3 hts gL_law_X6_sum rfl rfl rfl (by decide +kernel) ⟨Nat.le_of_ble_eq_true rfl, Nat.le_of_ble_eq_true rfl⟩) (xp_V hbase hh hK hX hS (ci := 6) g405 (by decide) rfl) rfl rfl hl.1 rfl (lv_room (Nat.le_of_ble_eq_true rfl)) dL_law_1134 ⟨by show _ ≤ 601024; omega, by show _ ≤ 7293034; omega⟩) hS (fun r406 m407 H locs h hh hS => ?_)
  refine lv_lstore (lv' := [(7, .long r406), (6, .int r396), (0, .ref b), (1, .ref l1), (2, .ref l2), (3, .ref l3), (4, .ref l4), (5, .int l5)]) hx hb dL_law_1137 hl (by decide) rfl (fun ls hl => ?_)
  refine lv_aload_n hx hb dL_law_1139 rfl (lv_at hl 4 rfl) ?_
  obtain ⟨g408, h⟩ := h
  refine xc_i (va_runV (As := []) (rest := []) ⟨hx, hb, hml, hown, hts⟩ (mt_X6_thrown l G (s.heap.size) h) (cwV 0 hts gL_law_X6_thrown rfl rfl rfl (by decide +kernel) ⟨Nat.le_of_ble_eq_true rfl, Nat.le_of_ble_eq_true rfl⟩) (xp_V hbase hh hK hX hS (ci := 6) g408 (by decide) rfl) rfl rfl hl.1 rfl (lv_room (Nat.le_of_ble_eq_true rfl)) dL_law_1140 ⟨by show _ ≤ 601024; omega, by show _ ≤ 7293034; omega⟩) hS (fun r409 m410 H locs h hh hS => ?_)
  refine lv_iload hx hb dL_law_1143 (lv_at hl 1 rfl) ?_
  refine lv_icmp_eq (tgt := 1150) hx hb dL_law_1145 (by decide) (fun c411 => ?_) (fun c411 => ?_)
  · replace h := h.1 c411
    refine lv_iload hx hb dL_law_1150 (lv_at hl 1 rfl) ?_
    refine lv_if_ne (tgt := 1166) hx hb dL_law_1152 (by decide) (fun c412 => ?_) (fun c412 => ?_)
    · replace h := h.1 c412
      refine lv_goto (tgt := 2255) hx hb dL_law_1166 (by decide) ?_
      obtain ⟨x413, ex413⟩ : ∃ y : Int32, y = l5 + 7 := ⟨_, rfl⟩
      replace h := h x413 ex413
      refine lv_iinc (v := x413) (lv' := [(5, .int x413), (7, .long r406), (6, .int r396), (0, .ref b), (1, .ref l1), (2, .ref l2), (3, .ref l3), (4, .ref l4)]) hx hb dL_law_2255 hl (k := 7) rfl (by rw [ex413]; rfl) (by decide) rfl (fun ls hl => ?_)
      refine lv_goto (tgt := 28) hx hb dL_law_2258 (by decide) ?_
      exact hK9 _ _ _ _ _ _ _ _ _ cl400 sl401 kc398 ks399 hcc hss h hh hS (lv_sub hl [3, 4, 5, 6, 7, 0] rfl)
    · replace h := h.2 c412
      refine lv_aload_n hx hb dL_law_1155 rfl (lv_at hl 5 rfl) ?_
      refine lv_iconst (v := 0) hx hb dL_law_1156 (by decide) ?_
      obtain ⟨g414, h⟩ := h
      obtain ⟨g415, h⟩ := h
      refine xr_lald hx hb hK hh g414 g415 dL_law_1157 ?_
      refine lv_lload hx hb dL_law_1158 (lv_at hl 0 rfl) ?_
      refine W.lcmp hx hb dL_law_1160 ?_
      refine lv_if_eq (tgt := 1166) hx hb dL_law_1161 (by decide) (fun c416 => ?_) (fun c416 => ?_)
      · replace h := h.1 c416
        refine lv_goto (tgt := 2255) hx hb dL_law_1166 (by decide) ?_
        obtain ⟨x417, ex417⟩ : ∃ y : Int32, y = l5 + 7 := ⟨_, rfl⟩
        replace h := h x417 ex417
        refine lv_iinc (v := x417) (lv' := [(5, .int x417), (7, .long r406), (6, .int r396), (0, .ref b), (1, .ref l1), (2, .ref l2), (3, .ref l3), (4, .ref l4)]) hx hb dL_law_2255 hl (k := 7) rfl (by rw [ex417]; rfl) (by decide) rfl (fun ls hl => ?_)
        refine lv_goto (tgt := 28) hx hb dL_law_2258 (by decide) ?_
        exact hK9 _ _ _ _ _ _ _ _ _ cl400 sl401 kc398 ks399 hcc hss h hh hS (lv_sub hl [3, 4, 5, 6, 7, 0] rfl)
      · replace h := h.2 c416
        refine lv_iconst (v := 0) hx hb dL_law_1164 (by decide) ?_
        exact h.elim
  · replace h := h.2 c411
    refine lv_iconst (v := 0) hx hb dL_law_1148 (by decide) ?_
    exact h.elim

set_option maxHeartbeats 4000000 in
set_option maxRecDepth 100000 in
theorem bk_L_law_1169 {b LL : Nat} {xs : Nat → Int32} {p : Program} {l : Launch} {e : Env} {s : State} {m : MethodId} {below : List Frame} {meth : Method} {c : Code} {G : GG} (C0 : BC p s m #[Value.ref b] meth c G s.heap.size RL cL_law 9 ret wsL_law) (hl9 : l.stackTraces = false) (hXs : va_X b LL xs s s.heap) (hbl : b < s.heap.size)  {K : Nat → Nat → Nat → Nat → Int32 → MM → Nat → Nat → Prop} (hK9 : ∀ (l1 : Nat) (l2 : Nat) (l3 : Nat) (l4 : Nat) (l5 : Int32) (m0 : MM) (H : Heap) (locs : List Loc) (ls : Array Slot) (cl9 sl9 kc ks : Nat) (hcc : cl9 + kc ≤ 601024) (hss : sl9 + ks ≤ 7293034), K l1 l2 l3 l4 l5 m0 kc ks → hp G (xA s.heap.size) m0 H → va_S (xA s.heap.size) s.heap H locs → lv_has ls 9 [(0, .ref b), (1, .ref l1), (2, .ref l2), (3, .ref l3), (4, .ref l4), (5, .int l5)] → W p l e room_1 s m #[Value.ref b] below meth c H locs cl9 sl9 (lw_Z below #[Value.ref b] s) (F0 m 28 ls [])) : ∀ (l1 : Nat) (l2 : Nat) (l3 : Nat) (l4 : Nat) (l5 : Int32) (m0 : MM) (H : Heap) (locs : List Loc) (ls : Array Slot) (cl9 sl9 kc ks : Nat) (hcc : cl9 + kc ≤ 601024) (hss : sl9 + ks ≤ 7293034), wp_L_law_1169 xs LL K l1 l2 l3 l4 l5 m0 kc ks → hp G (xA s.heap.size) m0 H → va_S (xA s.heap.size) s.heap H locs → lv_has ls 9 [(0, .ref b), (1, .ref l1), (2, .ref l2), (3, .ref l3), (4, .ref l4), (5, .int l5)] → W p l e room_1 s m #[Value.ref b] below meth c H locs cl9 sl9 (lw_Z below #[Value.ref b] s) (F0 m 1169 ls []) := by
  obtain ⟨hx, hb, hr, hml, hown, hts, hlocks, hK, hbase, hX⟩ := id C0
  have hbA : ¬ xA s.heap.size b := Nat.not_le.mpr hbl
  intro l1 l2 l3 l4 l5 m0 H locs ls cl9 sl9 kc ks hcc hss h hh hS hl
  unfold wp_L_law_1169 at h
  refine lv_aload_n hx hb dL_law_1169 rfl (lv_at hl 1 rfl) ?_
  refine lv_aload_n hx hb dL_law_1170 rfl (lv_at hl 0 rfl) ?_
  refine lv_iload hx hb dL_law_1171 (lv_at hl 5 rfl) ?_
  refine lv_iconst (v := 1) hx hb dL_law_1173 (by decide) ?_
  refine lv_iadd hx hb dL_law_1174 ?_
  obtain ⟨g418, h⟩ := h
  refine va_sld hx hb hXs hbl hbA hS g418 dL_law_1175 ?_
  refine lv_aload_n hx hb dL_law_1176 rfl (lv_at hl 0 rfl) ?_
  refine lv_iload hx hb dL_law_1177 (lv_at hl 5 rfl) ?_
  refine lv_iconst (v := 2) hx hb dL_law_1179 (by decide) ?_
  refine lv_iadd hx hb dL_law_1180 ?_
  obtain ⟨g419, h⟩ := h
  refine va_sld hx hb hXs hbl hbA hS g419 dL_law_1181 ?_
  refine lv_aload_n hx hb dL_law_1182 rfl (lv_at hl 0 rfl) ?_
  refine lv_iload hx hb dL_law_1183 (lv_at hl 5 rfl) ?_
  refine lv_iconst (v := 3) hx hb dL_law_1185 (by decide) ?_
  refine lv_iadd hx hb dL_law_1186 ?_
  obtain ⟨g420, h⟩ := h
  refine va_sld hx hb hXs hbl hbA hS g420 dL_law_1187 ?_
  refine lv_aload hx hb dL_law_1188 (lv_at hl 4 rfl) ?_
  obtain ⟨g421, g422, h⟩ := h
  refine xt_i (vx_runSX (As := [.ref l1, .int (xs (l5 + (1 : Int32)).toNatClampNeg), .int (xs (l5 + (2 : Int32)).toNatClampNeg), .int (xs (l5 + (3 : Int32)).toNatClampNeg), .ref l4]) (rest := []) ⟨hx, hb, hml, hown, hts⟩ (mt_L_average l hl9 G (s.heap.size) h) (vx_cwSW 5 hts gL_law_L_average rfl rfl rfl (by decide +kernel) ⟨Nat.le_of_ble_eq_true rfl, Nat.le_of_ble_eq_true rfl⟩) (xp_S hbase hh hK hX hS) rfl rfl hl.1 rfl (lv_room (Nat.le_of_ble_eq_true rfl)) dL_law_1190 ⟨by show _ ≤ 601024; omega, by show _ ≤ 7293034; omega⟩) hS (fun k9 m9 H locs q9 ce h hh hS hc9 hv9 hcl9 => h.elim) (fun r423 m424 H locs h hh hS => ?_)
  obtain ⟨kc425, ekc425⟩ : ∃ z : Nat, z = kc - 4 := ⟨_, rfl⟩
  obtain ⟨ks426, eks426⟩ : ∃ z : Nat, z = ks - 24 := ⟨_, rfl⟩
  replace h := h kc425 ks426 ekc425 eks426
  obtain ⟨cl427, ecl427⟩ : ∃ z : Nat, z = cl9 + 4 := ⟨_, rfl⟩
  obtain ⟨sl428, esl428⟩ : ∃ z : Nat, z = sl9 + 24 := ⟨_, rfl⟩
  refine W_cs ecl427 esl428 ?_
  have hcc : cl427 + kc425 ≤ 601024 := by omega
  have hss : sl428 + ks426 ≤ 7293034 := by omega
  refine lv_istore (lv' := [(6, .int r423), (0, .ref b), (1, .ref l1), (2, .ref l2), (3, .ref l3), (4, .ref l4), (5, .int l5)]) hx hb dL_law_1193 hl (by decide) rfl (fun ls hl => ?_)
  refine lv_aload_n hx hb dL_law_1195 rfl (lv_at hl 3 rfl) ?_
  refine lv_aload_n hx hb dL_law_1196 rfl (lv_at hl 1 rfl) ?_
  refine lv_iload hx hb dL_law_1197 (lv_at hl 6 rfl) ?_
  refine lv_iconst (v := 1) hx hb dL_law_1199 (by decide) ?_
  refine lv_iadd hx hb dL_law_1200 ?_
  obtain ⟨g429, h⟩ := h
  refine va_sld hx hb hXs hbl hbA hS g429 dL_law_1201 ?_
  refine lv_aload_n hx hb dL_law_1202 rfl (lv_at hl 1 rfl) ?_
  refine lv_iload hx hb dL_law_1203 (lv_at hl 6 rfl) ?_
  refine lv_iconst (v := 2) hx hb dL_law_1205 (by decide) ?_
  refine lv_iadd hx hb dL_law_1206 ?_
  obtain ⟨g430, h⟩ := h
  refine va_sld hx hb hXs hbl hbA hS g430 dL_law_1207 ?_
  refine lv_aload_n hx hb dL_law_1208 rfl (lv_at hl 1 rfl) ?_
  refine lv_iload hx hb dL_law_1209 (lv_at hl 6 rfl) ?_
  refine lv_iconst (v := 3) hx hb dL_law_1211 (by decide) ?_
  refine lv_iadd hx hb dL_law_1212 ?_
  obtain ⟨g431, h⟩ := h
  refine va_sld hx hb hXs hbl hbA hS g431 dL_law_1213 ?_
  obtain ⟨g432, h⟩ := h
  refine xc_d (va_runV (As := [.int (xs (l5 + (1 : Int32)).toNatClampNeg), .int (xs (l5 + (2 : Int32)).toNatClampNeg), .int (xs (l5 + (3 : Int32)).toNatClampNeg)]) (rest := []) ⟨hx, hb, hml, hown, hts⟩ (mt_X6_average l G (s.heap.size) h) (cwV 3 hts gL_law_X6_average rfl rfl rfl (by decide +kernel) ⟨Nat.le_of_ble_eq_true rfl, Nat.le_of_ble_eq_true rfl⟩) (xp_V hbase hh hK hX hS (ci := 6) g432 (by decide) rfl) rfl rfl hl.1 rfl (lv_room (Nat.le_of_ble_eq_true rfl)) dL_law_1214 ⟨by show _ ≤ 601024; omega, by show _ ≤ 7293034; omega⟩) hS (fun r433 m434 H locs h hh hS => ?_)
  refine lv_dstore (lv' := [(7, .double r433), (6, .int r423), (0, .ref b), (1, .ref l1), (2, .ref l2), (3, .ref l3), (4, .ref l4), (5, .int l5)]) hx hb dL_law_1217 hl (by decide) rfl (fun ls hl => ?_)
  refine lv_aload_n hx hb dL_law_1219 rfl (lv_at hl 4 rfl) ?_
  obtain ⟨g435, h⟩ := h
  refine xc_i (va_runV (As := []) (rest := []) ⟨hx, hb, hml, hown, hts⟩ (mt_X6_thrown l G (s.heap.size) h) (cwV 0 hts gL_law_X6_thrown rfl rfl rfl (by decide +kernel) ⟨Nat.le_of_ble_eq_true rfl, Nat.le_of_ble_eq_true rfl⟩) (xp_V hbase hh hK hX hS (ci := 6) g435 (by decide) rfl) rfl rfl hl.1 rfl (lv_room (Nat.le_of_ble_eq_true rfl)) dL_law_1220 ⟨by show _ ≤ 601024; omega, by show _ ≤ 7293034; omega⟩) hS (fun r436 m437 H locs h hh hS => ?_)
  refine lv_iload hx hb dL_law_1223 (lv_at hl 1 rfl) ?_
  refine lv_icmp_eq (tgt := 1230) hx hb dL_law_1225 (by decide) (fun c438 => ?_) (fun c438 => ?_)
  · replace h := h.1 c438
    refine lv_iload hx hb dL_law_1230 (lv_at hl 1 rfl) ?_
    refine lv_if_ne (tgt := 1267) hx hb dL_law_1232 (by decide) (fun c439 => ?_) (fun c439 => ?_)
    · replace h := h.1 c439
      refine lv_goto (tgt := 2255) hx hb dL_law_1267 (by decide) ?_
      obtain ⟨x440, ex440⟩ : ∃ y : Int32, y = l5 + 7 := ⟨_, rfl⟩
      replace h := h x440 ex440
      refine lv_iinc (v := x440) (lv' := [(5, .int x440), (7, .double r433), (6, .int r423), (0, .ref b), (1, .ref l1), (2, .ref l2), (3, .ref l3), (4, .ref l4)]) hx hb dL_law_2255 hl (k := 7) rfl (by rw [ex440]; rfl) (by decide) rfl (fun ls hl => ?_)
      refine lv_goto (tgt := 28) hx hb dL_law_2258 (by decide) ?_
      exact hK9 _ _ _ _ _ _ _ _ _ cl427 sl428 kc425 ks426 hcc hss h hh hS (lv_sub hl [3, 4, 5, 6, 7, 0] rfl)
    · replace h := h.2 c439
      refine lv_aload hx hb dL_law_1235 (lv_at hl 6 rfl) ?_
      refine lv_iconst (v := 0) hx hb dL_law_1237 (by decide) ?_
      obtain ⟨g441, h⟩ := h
      obtain ⟨g442, h⟩ := h
      refine xr_dald hx hb hK hh g441 g442 dL_law_1238 ?_
      refine lv_dload hx hb dL_law_1239 (lv_at hl 0 rfl) ?_
      refine lv_dcmp hx hb dL_law_1241 ?_
      refine lv_if_eq (tgt := 1267) hx hb dL_law_1242 (by decide) (fun c443 => ?_) (fun c443 => ?_)
      · replace h := h.1 c443
        refine lv_goto (tgt := 2255) hx hb dL_law_1267 (by decide) ?_
        obtain ⟨x444, ex444⟩ : ∃ y : Int32, y = l5 + 7 := ⟨_, rfl⟩
        replace h := h x444 ex444
        refine lv_iinc (v := x444) (lv' := [(5, .int x444), (7, .double r433), (6, .int r423), (0, .ref b), (1, .ref l1), (2, .ref l2), (3, .ref l3), (4, .ref l4)]) hx hb dL_law_2255 hl (k := 7) rfl (by rw [ex444]; rfl) (by decide) rfl (fun ls hl => ?_)
        refine lv_goto (tgt := 28) hx hb dL_law_2258 (by decide) ?_
        exact hK9 _ _ _ _ _ _ _ _ _ cl427 sl428 kc425 ks426 hcc hss h hh hS (lv_sub hl [3, 4, 5, 6, 7, 0] rfl)
      · replace h := h.2 c443
        refine lv_aload hx hb dL_law_1245 (lv_at hl 6 rfl) ?_
        refine lv_iconst (v := 0) hx hb dL_law_1247 (by decide) ?_
        obtain ⟨g445, h⟩ := h
        obtain ⟨g446, h⟩ := h
        refine xr_dald hx hb hK hh g445 g446 dL_law_1248 ?_
        refine lv_aload hx hb dL_law_1249 (lv_at hl 6 rfl) ?_
        refine lv_iconst (v := 0) hx hb dL_law_1251 (by decide) ?_
        obtain ⟨g447, h⟩ := h
        obtain ⟨g448, h⟩ := h
        refine xr_dald hx hb hK hh g447 g448 dL_law_1252 ?_
        refine lv_dcmp hx hb dL_law_1253 ?_
        refine lv_if_eq (tgt := 1265) hx hb dL_law_1254 (by decide) (fun c449 => ?_) (fun c449 => ?_)
        · replace h := h.1 c449
          refine lv_iconst (v := 0) hx hb dL_law_1265 (by decide) ?_
          exact h.elim
        · replace h := h.2 c449
          refine lv_dload hx hb dL_law_1257 (lv_at hl 0 rfl) ?_
          refine lv_dload hx hb dL_law_1259 (lv_at hl 0 rfl) ?_
          refine lv_dcmp hx hb dL_law_1261 ?_
          refine lv_if_ne (tgt := 1267) hx hb dL_law_1262 (by decide) (fun c450 => ?_) (fun c450 => ?_)
          · replace h := h.1 c450
            refine lv_goto (tgt := 2255) hx hb dL_law_1267 (by decide) ?_
            obtain ⟨x451, ex451⟩ : ∃ y : Int32, y = l5 + 7 := ⟨_, rfl⟩
            replace h := h x451 ex451
            refine lv_iinc (v := x451) (lv' := [(5, .int x451), (7, .double r433), (6, .int r423), (0, .ref b), (1, .ref l1), (2, .ref l2), (3, .ref l3), (4, .ref l4)]) hx hb dL_law_2255 hl (k := 7) rfl (by rw [ex451]; rfl) (by decide) rfl (fun ls hl => ?_)
            refine lv_goto (tgt := 28) hx hb dL_law_2258 (by decide) ?_
            exact hK9 _ _ _ _ _ _ _ _ _ cl427 sl428 kc425 ks426 hcc hss h hh hS (lv_sub hl [3, 4, 5, 6, 7, 0] rfl)
          · replace h := h.2 c450
            refine lv_iconst (v := 0) hx hb dL_law_1265 (by decide) ?_
            exact h.elim
  · replace h := h.2 c438
    refine lv_iconst (v := 0) hx hb dL_law_1228 (by decide) ?_
    exact h.elim

set_option maxHeartbeats 4000000 in
set_option maxRecDepth 100000 in
theorem bk_L_law_1270 {b LL : Nat} {xs : Nat → Int32} {p : Program} {l : Launch} {e : Env} {s : State} {m : MethodId} {below : List Frame} {meth : Method} {c : Code} {G : GG} (C0 : BC p s m #[Value.ref b] meth c G s.heap.size RL cL_law 9 ret wsL_law) (hl9 : l.stackTraces = false) (hXs : va_X b LL xs s s.heap) (hbl : b < s.heap.size)  {K : Nat → Nat → Nat → Nat → Int32 → MM → Nat → Nat → Prop} (hK9 : ∀ (l1 : Nat) (l2 : Nat) (l3 : Nat) (l4 : Nat) (l5 : Int32) (m0 : MM) (H : Heap) (locs : List Loc) (ls : Array Slot) (cl9 sl9 kc ks : Nat) (hcc : cl9 + kc ≤ 601024) (hss : sl9 + ks ≤ 7293034), K l1 l2 l3 l4 l5 m0 kc ks → hp G (xA s.heap.size) m0 H → va_S (xA s.heap.size) s.heap H locs → lv_has ls 9 [(0, .ref b), (1, .ref l1), (2, .ref l2), (3, .ref l3), (4, .ref l4), (5, .int l5)] → W p l e room_1 s m #[Value.ref b] below meth c H locs cl9 sl9 (lw_Z below #[Value.ref b] s) (F0 m 28 ls [])) : ∀ (l1 : Nat) (l2 : Nat) (l3 : Nat) (l4 : Nat) (l5 : Int32) (m0 : MM) (H : Heap) (locs : List Loc) (ls : Array Slot) (cl9 sl9 kc ks : Nat) (hcc : cl9 + kc ≤ 601024) (hss : sl9 + ks ≤ 7293034), wp_L_law_1270 xs LL K l1 l2 l3 l4 l5 m0 kc ks → hp G (xA s.heap.size) m0 H → va_S (xA s.heap.size) s.heap H locs → lv_has ls 9 [(0, .ref b), (1, .ref l1), (2, .ref l2), (3, .ref l3), (4, .ref l4), (5, .int l5)] → W p l e room_1 s m #[Value.ref b] below meth c H locs cl9 sl9 (lw_Z below #[Value.ref b] s) (F0 m 1270 ls []) := by
  obtain ⟨hx, hb, hr, hml, hown, hts, hlocks, hK, hbase, hX⟩ := id C0
  have hbA : ¬ xA s.heap.size b := Nat.not_le.mpr hbl
  intro l1 l2 l3 l4 l5 m0 H locs ls cl9 sl9 kc ks hcc hss h hh hS hl
  unfold wp_L_law_1270 at h
  refine lv_aload_n hx hb dL_law_1270 rfl (lv_at hl 1 rfl) ?_
  refine lv_aload_n hx hb dL_law_1271 rfl (lv_at hl 0 rfl) ?_
  refine lv_iload hx hb dL_law_1272 (lv_at hl 5 rfl) ?_
  refine lv_iconst (v := 1) hx hb dL_law_1274 (by decide) ?_
  refine lv_iadd hx hb dL_law_1275 ?_
  obtain ⟨g452, h⟩ := h
  refine va_sld hx hb hXs hbl hbA hS g452 dL_law_1276 ?_
  refine lv_aload_n hx hb dL_law_1277 rfl (lv_at hl 0 rfl) ?_
  refine lv_iload hx hb dL_law_1278 (lv_at hl 5 rfl) ?_
  refine lv_iconst (v := 2) hx hb dL_law_1280 (by decide) ?_
  refine lv_iadd hx hb dL_law_1281 ?_
  obtain ⟨g453, h⟩ := h
  refine va_sld hx hb hXs hbl hbA hS g453 dL_law_1282 ?_
  refine lv_aload_n hx hb dL_law_1283 rfl (lv_at hl 0 rfl) ?_
  refine lv_iload hx hb dL_law_1284 (lv_at hl 5 rfl) ?_
  refine lv_iconst (v := 3) hx hb dL_law_1286 (by decide) ?_
  refine lv_iadd hx hb dL_law_1287 ?_
  obtain ⟨g454, h⟩ := h
  refine va_sld hx hb hXs hbl hbA hS g454 dL_law_1288 ?_
  refine lv_aload_n hx hb dL_law_1289 rfl (lv_at hl 3 rfl) ?_
  obtain ⟨g455, g456, h⟩ := h
  refine xt_i (vx_runSX (As := [.ref l1, .int (xs (l5 + (1 : Int32)).toNatClampNeg), .int (xs (l5 + (2 : Int32)).toNatClampNeg), .int (xs (l5 + (3 : Int32)).toNatClampNeg), .ref l3]) (rest := []) ⟨hx, hb, hml, hown, hts⟩ (mt_L_least l hl9 G (s.heap.size) h) (vx_cwSW 5 hts gL_law_L_least rfl rfl rfl (by decide +kernel) ⟨Nat.le_of_ble_eq_true rfl, Nat.le_of_ble_eq_true rfl⟩) (xp_S hbase hh hK hX hS) rfl rfl hl.1 rfl (lv_room (Nat.le_of_ble_eq_true rfl)) dL_law_1290 ⟨by show _ ≤ 601024; omega, by show _ ≤ 7293034; omega⟩) hS (fun k9 m9 H locs q9 ce h hh hS hc9 hv9 hcl9 => h.elim) (fun r457 m458 H locs h hh hS => ?_)
  obtain ⟨kc459, ekc459⟩ : ∃ z : Nat, z = kc - 4 := ⟨_, rfl⟩
  obtain ⟨ks460, eks460⟩ : ∃ z : Nat, z = ks - 24 := ⟨_, rfl⟩
  replace h := h kc459 ks460 ekc459 eks460
  obtain ⟨cl461, ecl461⟩ : ∃ z : Nat, z = cl9 + 4 := ⟨_, rfl⟩
  obtain ⟨sl462, esl462⟩ : ∃ z : Nat, z = sl9 + 24 := ⟨_, rfl⟩
  refine W_cs ecl461 esl462 ?_
  have hcc : cl461 + kc459 ≤ 601024 := by omega
  have hss : sl462 + ks460 ≤ 7293034 := by omega
  refine lv_istore (lv' := [(6, .int r457), (0, .ref b), (1, .ref l1), (2, .ref l2), (3, .ref l3), (4, .ref l4), (5, .int l5)]) hx hb dL_law_1293 hl (by decide) rfl (fun ls hl => ?_)
  refine lv_aload_n hx hb dL_law_1295 rfl (lv_at hl 3 rfl) ?_
  refine lv_aload_n hx hb dL_law_1296 rfl (lv_at hl 1 rfl) ?_
  refine lv_iload hx hb dL_law_1297 (lv_at hl 6 rfl) ?_
  refine lv_iconst (v := 1) hx hb dL_law_1299 (by decide) ?_
  refine lv_iadd hx hb dL_law_1300 ?_
  obtain ⟨g463, h⟩ := h
  refine va_sld hx hb hXs hbl hbA hS g463 dL_law_1301 ?_
  refine lv_aload_n hx hb dL_law_1302 rfl (lv_at hl 1 rfl) ?_
  refine lv_iload hx hb dL_law_1303 (lv_at hl 6 rfl) ?_
  refine lv_iconst (v := 2) hx hb dL_law_1305 (by decide) ?_
  refine lv_iadd hx hb dL_law_1306 ?_
  obtain ⟨g464, h⟩ := h
  refine va_sld hx hb hXs hbl hbA hS g464 dL_law_1307 ?_
  refine lv_aload_n hx hb dL_law_1308 rfl (lv_at hl 1 rfl) ?_
  refine lv_iload hx hb dL_law_1309 (lv_at hl 6 rfl) ?_
  refine lv_iconst (v := 3) hx hb dL_law_1311 (by decide) ?_
  refine lv_iadd hx hb dL_law_1312 ?_
  obtain ⟨g465, h⟩ := h
  refine va_sld hx hb hXs hbl hbA hS g465 dL_law_1313 ?_
  obtain ⟨g466, h⟩ := h
  refine xc_i (va_runV (As := [.int (xs (l5 + (1 : Int32)).toNatClampNeg), .int (xs (l5 + (2 : Int32)).toNatClampNeg), .int (xs (l5 + (3 : Int32)).toNatClampNeg)]) (rest := []) ⟨hx, hb, hml, hown, hts⟩ (mt_X6_least l G (s.heap.size) h) (cwV 3 hts gL_law_X6_least rfl rfl rfl (by decide +kernel) ⟨Nat.le_of_ble_eq_true rfl, Nat.le_of_ble_eq_true rfl⟩) (xp_V hbase hh hK hX hS (ci := 6) g466 (by decide) rfl) rfl rfl hl.1 rfl (lv_room (Nat.le_of_ble_eq_true rfl)) dL_law_1314 ⟨by show _ ≤ 601024; omega, by show _ ≤ 7293034; omega⟩) hS (fun r467 m468 H locs h hh hS => ?_)
  refine lv_istore (lv' := [(7, .int r467), (6, .int r457), (0, .ref b), (1, .ref l1), (2, .ref l2), (3, .ref l3), (4, .ref l4), (5, .int l5)]) hx hb dL_law_1317 hl (by decide) rfl (fun ls hl => ?_)
  refine lv_aload_n hx hb dL_law_1319 rfl (lv_at hl 4 rfl) ?_
  obtain ⟨g469, h⟩ := h
  refine xc_i (va_runV (As := []) (rest := []) ⟨hx, hb, hml, hown, hts⟩ (mt_X6_thrown l G (s.heap.size) h) (cwV 0 hts gL_law_X6_thrown rfl rfl rfl (by decide +kernel) ⟨Nat.le_of_ble_eq_true rfl, Nat.le_of_ble_eq_true rfl⟩) (xp_V hbase hh hK hX hS (ci := 6) g469 (by decide) rfl) rfl rfl hl.1 rfl (lv_room (Nat.le_of_ble_eq_true rfl)) dL_law_1320 ⟨by show _ ≤ 601024; omega, by show _ ≤ 7293034; omega⟩) hS (fun r470 m471 H locs h hh hS => ?_)
  refine lv_iload hx hb dL_law_1323 (lv_at hl 1 rfl) ?_
  refine lv_icmp_eq (tgt := 1330) hx hb dL_law_1325 (by decide) (fun c472 => ?_) (fun c472 => ?_)
  · replace h := h.1 c472
    refine lv_iload hx hb dL_law_1330 (lv_at hl 1 rfl) ?_
    refine lv_if_ne (tgt := 1347) hx hb dL_law_1332 (by decide) (fun c473 => ?_) (fun c473 => ?_)
    · replace h := h.1 c473
      refine lv_goto (tgt := 2255) hx hb dL_law_1347 (by decide) ?_
      obtain ⟨x474, ex474⟩ : ∃ y : Int32, y = l5 + 7 := ⟨_, rfl⟩
      replace h := h x474 ex474
      refine lv_iinc (v := x474) (lv' := [(5, .int x474), (7, .int r467), (6, .int r457), (0, .ref b), (1, .ref l1), (2, .ref l2), (3, .ref l3), (4, .ref l4)]) hx hb dL_law_2255 hl (k := 7) rfl (by rw [ex474]; rfl) (by decide) rfl (fun ls hl => ?_)
      refine lv_goto (tgt := 28) hx hb dL_law_2258 (by decide) ?_
      exact hK9 _ _ _ _ _ _ _ _ _ cl461 sl462 kc459 ks460 hcc hss h hh hS (lv_sub hl [3, 4, 5, 6, 7, 0] rfl)
    · replace h := h.2 c473
      refine lv_aload_n hx hb dL_law_1335 rfl (lv_at hl 5 rfl) ?_
      refine lv_iconst (v := 0) hx hb dL_law_1336 (by decide) ?_
      obtain ⟨g475, h⟩ := h
      obtain ⟨g476, h⟩ := h
      refine xr_lald hx hb hK hh g475 g476 dL_law_1337 ?_
      refine lv_iload hx hb dL_law_1338 (lv_at hl 0 rfl) ?_
      refine lv_i2l hx hb dL_law_1340 rfl ?_
      refine W.lcmp hx hb dL_law_1341 ?_
      refine lv_if_eq (tgt := 1347) hx hb dL_law_1342 (by decide) (fun c477 => ?_) (fun c477 => ?_)
      · replace h := h.1 c477
        refine lv_goto (tgt := 2255) hx hb dL_law_1347 (by decide) ?_
        obtain ⟨x478, ex478⟩ : ∃ y : Int32, y = l5 + 7 := ⟨_, rfl⟩
        replace h := h x478 ex478
        refine lv_iinc (v := x478) (lv' := [(5, .int x478), (7, .int r467), (6, .int r457), (0, .ref b), (1, .ref l1), (2, .ref l2), (3, .ref l3), (4, .ref l4)]) hx hb dL_law_2255 hl (k := 7) rfl (by rw [ex478]; rfl) (by decide) rfl (fun ls hl => ?_)
        refine lv_goto (tgt := 28) hx hb dL_law_2258 (by decide) ?_
        exact hK9 _ _ _ _ _ _ _ _ _ cl461 sl462 kc459 ks460 hcc hss h hh hS (lv_sub hl [3, 4, 5, 6, 7, 0] rfl)
      · replace h := h.2 c477
        refine lv_iconst (v := 0) hx hb dL_law_1345 (by decide) ?_
        exact h.elim
  · replace h := h.2 c472
    refine lv_iconst (v := 0) hx hb dL_law_1328 (by decide) ?_
    exact h.elim

set_option maxHeartbeats 4000000 in
set_option maxRecDepth 100000 in
theorem bk_L_law_1350 {b LL : Nat} {xs : Nat → Int32} {p : Program} {l : Launch} {e : Env} {s : State} {m : MethodId} {below : List Frame} {meth : Method} {c : Code} {G : GG} (C0 : BC p s m #[Value.ref b] meth c G s.heap.size RL cL_law 9 ret wsL_law) (hl9 : l.stackTraces = false) (hXs : va_X b LL xs s s.heap) (hbl : b < s.heap.size)  {K : Nat → Nat → Nat → Nat → Int32 → MM → Nat → Nat → Prop} (hK9 : ∀ (l1 : Nat) (l2 : Nat) (l3 : Nat) (l4 : Nat) (l5 : Int32) (m0 : MM) (H : Heap) (locs : List Loc) (ls : Array Slot) (cl9 sl9 kc ks : Nat) (hcc : cl9 + kc ≤ 601024) (hss : sl9 + ks ≤ 7293034), K l1 l2 l3 l4 l5 m0 kc ks → hp G (xA s.heap.size) m0 H → va_S (xA s.heap.size) s.heap H locs → lv_has ls 9 [(0, .ref b), (1, .ref l1), (2, .ref l2), (3, .ref l3), (4, .ref l4), (5, .int l5)] → W p l e room_1 s m #[Value.ref b] below meth c H locs cl9 sl9 (lw_Z below #[Value.ref b] s) (F0 m 28 ls [])) : ∀ (l1 : Nat) (l2 : Nat) (l3 : Nat) (l4 : Nat) (l5 : Int32) (m0 : MM) (H : Heap) (locs : List Loc) (ls : Array Slot) (cl9 sl9 kc ks : Nat) (hcc : cl9 + kc ≤ 601024) (hss : sl9 + ks ≤ 7293034), wp_L_law_1350 xs LL K l1 l2 l3 l4 l5 m0 kc ks → hp G (xA s.heap.size) m0 H → va_S (xA s.heap.size) s.heap H locs → lv_has ls 9 [(0, .ref b), (1, .ref l1), (2, .ref l2), (3, .ref l3), (4, .ref l4), (5, .int l5)] → W p l e room_1 s m #[Value.ref b] below meth c H locs cl9 sl9 (lw_Z below #[Value.ref b] s) (F0 m 1350 ls []) := by
  obtain ⟨hx, hb, hr, hml, hown, hts, hlocks, hK, hbase, hX⟩ := id C0
  have hbA : ¬ xA s.heap.size b := Nat.not_le.mpr hbl
  intro l1 l2 l3 l4 l5 m0 H locs ls cl9 sl9 kc ks hcc hss h hh hS hl
  unfold wp_L_law_1350 at h
  refine lv_aload_n hx hb dL_law_1350 rfl (lv_at hl 1 rfl) ?_
  refine lv_aload_n hx hb dL_law_1351 rfl (lv_at hl 0 rfl) ?_
  refine lv_iload hx hb dL_law_1352 (lv_at hl 5 rfl) ?_
  refine lv_iconst (v := 1) hx hb dL_law_1354 (by decide) ?_
  refine lv_iadd hx hb dL_law_1355 ?_
  obtain ⟨g479, h⟩ := h
  refine va_sld hx hb hXs hbl hbA hS g479 dL_law_1356 ?_
  refine lv_aload_n hx hb dL_law_1357 rfl (lv_at hl 0 rfl) ?_
  refine lv_iload hx hb dL_law_1358 (lv_at hl 5 rfl) ?_
  refine lv_iconst (v := 2) hx hb dL_law_1360 (by decide) ?_
  refine lv_iadd hx hb dL_law_1361 ?_
  obtain ⟨g480, h⟩ := h
  refine va_sld hx hb hXs hbl hbA hS g480 dL_law_1362 ?_
  refine lv_aload_n hx hb dL_law_1363 rfl (lv_at hl 0 rfl) ?_
  refine lv_iload hx hb dL_law_1364 (lv_at hl 5 rfl) ?_
  refine lv_iconst (v := 3) hx hb dL_law_1366 (by decide) ?_
  refine lv_iadd hx hb dL_law_1367 ?_
  obtain ⟨g481, h⟩ := h
  refine va_sld hx hb hXs hbl hbA hS g481 dL_law_1368 ?_
  refine lv_aload_n hx hb dL_law_1369 rfl (lv_at hl 3 rfl) ?_
  obtain ⟨g482, g483, h⟩ := h
  refine xt_i (vx_runSX (As := [.ref l1, .int (xs (l5 + (1 : Int32)).toNatClampNeg), .int (xs (l5 + (2 : Int32)).toNatClampNeg), .int (xs (l5 + (3 : Int32)).toNatClampNeg), .ref l3]) (rest := []) ⟨hx, hb, hml, hown, hts⟩ (mt_L_greatest l hl9 G (s.heap.size) h) (vx_cwSW 5 hts gL_law_L_greatest rfl rfl rfl (by decide +kernel) ⟨Nat.le_of_ble_eq_true rfl, Nat.le_of_ble_eq_true rfl⟩) (xp_S hbase hh hK hX hS) rfl rfl hl.1 rfl (lv_room (Nat.le_of_ble_eq_true rfl)) dL_law_1370 ⟨by show _ ≤ 601024; omega, by show _ ≤ 7293034; omega⟩) hS (fun k9 m9 H locs q9 ce h hh hS hc9 hv9 hcl9 => h.elim) (fun r484 m485 H locs h hh hS => ?_)
  obtain ⟨kc486, ekc486⟩ : ∃ z : Nat, z = kc - 4 := ⟨_, rfl⟩
  obtain ⟨ks487, eks487⟩ : ∃ z : Nat, z = ks - 24 := ⟨_, rfl⟩
  replace h := h kc486 ks487 ekc486 eks487
  obtain ⟨cl488, ecl488⟩ : ∃ z : Nat, z = cl9 + 4 := ⟨_, rfl⟩
  obtain ⟨sl489, esl489⟩ : ∃ z : Nat, z = sl9 + 24 := ⟨_, rfl⟩
  refine W_cs ecl488 esl489 ?_
  have hcc : cl488 + kc486 ≤ 601024 := by omega
  have hss : sl489 + ks487 ≤ 7293034 := by omega
  refine lv_istore (lv' := [(6, .int r484), (0, .ref b), (1, .ref l1), (2, .ref l2), (3, .ref l3), (4, .ref l4), (5, .int l5)]) hx hb dL_law_1373 hl (by decide) rfl (fun ls hl => ?_)
  refine lv_aload_n hx hb dL_law_1375 rfl (lv_at hl 3 rfl) ?_
  refine lv_aload_n hx hb dL_law_1376 rfl (lv_at hl 1 rfl) ?_
  refine lv_iload hx hb dL_law_1377 (lv_at hl 6 rfl) ?_
  refine lv_iconst (v := 1) hx hb dL_law_1379 (by decide) ?_
  refine lv_iadd hx hb dL_law_1380 ?_
  obtain ⟨g490, h⟩ := h
  refine va_sld hx hb hXs hbl hbA hS g490 dL_law_1381 ?_
  refine lv_aload_n hx hb dL_law_1382 rfl (lv_at hl 1 rfl) ?_
  refine lv_iload hx hb dL_law_1383 (lv_at hl 6 rfl) ?_
  refine lv_iconst (v := 2) hx hb dL_law_1385 (by decide) ?_
  refine lv_iadd hx hb dL_law_1386 ?_
  obtain ⟨g491, h⟩ := h
  refine va_sld hx hb hXs hbl hbA hS g491 dL_law_1387 ?_
  refine lv_aload_n hx hb dL_law_1388 rfl (lv_at hl 1 rfl) ?_
  refine lv_iload hx hb dL_law_1389 (lv_at hl 6 rfl) ?_
  refine lv_iconst (v := 3) hx hb dL_law_1391 (by decide) ?_
  refine lv_iadd hx hb dL_law_1392 ?_
  obtain ⟨g492, h⟩ := h
  refine va_sld hx hb hXs hbl hbA hS g492 dL_law_1393 ?_
  obtain ⟨g493, h⟩ := h
  refine xc_i (va_runV (As := [.int (xs (l5 + (1 : Int32)).toNatClampNeg), .int (xs (l5 + (2 : Int32)).toNatClampNeg), .int (xs (l5 + (3 : Int32)).toNatClampNeg)]) (rest := []) ⟨hx, hb, hml, hown, hts⟩ (mt_X6_greatest l G (s.heap.size) h) (cwV 3 hts gL_law_X6_greatest rfl rfl rfl (by decide +kernel) ⟨Nat.le_of_ble_eq_true rfl, Nat.le_of_ble_eq_true rfl⟩) (xp_V hbase hh hK hX hS (ci := 6) g493 (by decide) rfl) rfl rfl hl.1 rfl (lv_room (Nat.le_of_ble_eq_true rfl)) dL_law_1394 ⟨by show _ ≤ 601024; omega, by show _ ≤ 7293034; omega⟩) hS (fun r494 m495 H locs h hh hS => ?_)
  refine lv_istore (lv' := [(7, .int r494), (6, .int r484), (0, .ref b), (1, .ref l1), (2, .ref l2), (3, .ref l3), (4, .ref l4), (5, .int l5)]) hx hb dL_law_1397 hl (by decide) rfl (fun ls hl => ?_)
  refine lv_aload_n hx hb dL_law_1399 rfl (lv_at hl 4 rfl) ?_
  obtain ⟨g496, h⟩ := h
  refine xc_i (va_runV (As := []) (rest := []) ⟨hx, hb, hml, hown, hts⟩ (mt_X6_thrown l G (s.heap.size) h) (cwV 0 hts gL_law_X6_thrown rfl rfl rfl (by decide +kernel) ⟨Nat.le_of_ble_eq_true rfl, Nat.le_of_ble_eq_true rfl⟩) (xp_V hbase hh hK hX hS (ci := 6) g496 (by decide) rfl) rfl rfl hl.1 rfl (lv_room (Nat.le_of_ble_eq_true rfl)) dL_law_1400 ⟨by show _ ≤ 601024; omega, by show _ ≤ 7293034; omega⟩) hS (fun r497 m498 H locs h hh hS => ?_)
  refine lv_iload hx hb dL_law_1403 (lv_at hl 1 rfl) ?_
  refine lv_icmp_eq (tgt := 1410) hx hb dL_law_1405 (by decide) (fun c499 => ?_) (fun c499 => ?_)
  · replace h := h.1 c499
    refine lv_iload hx hb dL_law_1410 (lv_at hl 1 rfl) ?_
    refine lv_if_ne (tgt := 1427) hx hb dL_law_1412 (by decide) (fun c500 => ?_) (fun c500 => ?_)
    · replace h := h.1 c500
      refine lv_goto (tgt := 2255) hx hb dL_law_1427 (by decide) ?_
      obtain ⟨x501, ex501⟩ : ∃ y : Int32, y = l5 + 7 := ⟨_, rfl⟩
      replace h := h x501 ex501
      refine lv_iinc (v := x501) (lv' := [(5, .int x501), (7, .int r494), (6, .int r484), (0, .ref b), (1, .ref l1), (2, .ref l2), (3, .ref l3), (4, .ref l4)]) hx hb dL_law_2255 hl (k := 7) rfl (by rw [ex501]; rfl) (by decide) rfl (fun ls hl => ?_)
      refine lv_goto (tgt := 28) hx hb dL_law_2258 (by decide) ?_
      exact hK9 _ _ _ _ _ _ _ _ _ cl488 sl489 kc486 ks487 hcc hss h hh hS (lv_sub hl [3, 4, 5, 6, 7, 0] rfl)
    · replace h := h.2 c500
      refine lv_aload_n hx hb dL_law_1415 rfl (lv_at hl 5 rfl) ?_
      refine lv_iconst (v := 0) hx hb dL_law_1416 (by decide) ?_
      obtain ⟨g502, h⟩ := h
      obtain ⟨g503, h⟩ := h
      refine xr_lald hx hb hK hh g502 g503 dL_law_1417 ?_
      refine lv_iload hx hb dL_law_1418 (lv_at hl 0 rfl) ?_
      refine lv_i2l hx hb dL_law_1420 rfl ?_
      refine W.lcmp hx hb dL_law_1421 ?_
      refine lv_if_eq (tgt := 1427) hx hb dL_law_1422 (by decide) (fun c504 => ?_) (fun c504 => ?_)
      · replace h := h.1 c504
        refine lv_goto (tgt := 2255) hx hb dL_law_1427 (by decide) ?_
        obtain ⟨x505, ex505⟩ : ∃ y : Int32, y = l5 + 7 := ⟨_, rfl⟩
        replace h := h x505 ex505
        refine lv_iinc (v := x505) (lv' := [(5, .int x505), (7, .int r494), (6, .int r484), (0, .ref b), (1, .ref l1), (2, .ref l2), (3, .ref l3), (4, .ref l4)]) hx hb dL_law_2255 hl (k := 7) rfl (by rw [ex505]; rfl) (by decide) rfl (fun ls hl => ?_)
        refine lv_goto (tgt := 28) hx hb dL_law_2258 (by decide) ?_
        exact hK9 _ _ _ _ _ _ _ _ _ cl488 sl489 kc486 ks487 hcc hss h hh hS (lv_sub hl [3, 4, 5, 6, 7, 0] rfl)
      · replace h := h.2 c504
        refine lv_iconst (v := 0) hx hb dL_law_1425 (by decide) ?_
        exact h.elim
  · replace h := h.2 c499
    refine lv_iconst (v := 0) hx hb dL_law_1408 (by decide) ?_
    exact h.elim

set_option maxHeartbeats 4000000 in
set_option maxRecDepth 100000 in
theorem bk_L_law_1430 {b LL : Nat} {xs : Nat → Int32} {p : Program} {l : Launch} {e : Env} {s : State} {m : MethodId} {below : List Frame} {meth : Method} {c : Code} {G : GG} (C0 : BC p s m #[Value.ref b] meth c G s.heap.size RL cL_law 9 ret wsL_law) (hl9 : l.stackTraces = false) (hXs : va_X b LL xs s s.heap) (hbl : b < s.heap.size)  {K : Nat → Nat → Nat → Nat → Int32 → MM → Nat → Nat → Prop} (hK9 : ∀ (l1 : Nat) (l2 : Nat) (l3 : Nat) (l4 : Nat) (l5 : Int32) (m0 : MM) (H : Heap) (locs : List Loc) (ls : Array Slot) (cl9 sl9 kc ks : Nat) (hcc : cl9 + kc ≤ 601024) (hss : sl9 + ks ≤ 7293034), K l1 l2 l3 l4 l5 m0 kc ks → hp G (xA s.heap.size) m0 H → va_S (xA s.heap.size) s.heap H locs → lv_has ls 9 [(0, .ref b), (1, .ref l1), (2, .ref l2), (3, .ref l3), (4, .ref l4), (5, .int l5)] → W p l e room_1 s m #[Value.ref b] below meth c H locs cl9 sl9 (lw_Z below #[Value.ref b] s) (F0 m 28 ls [])) : ∀ (l1 : Nat) (l2 : Nat) (l3 : Nat) (l4 : Nat) (l5 : Int32) (m0 : MM) (H : Heap) (locs : List Loc) (ls : Array Slot) (cl9 sl9 kc ks : Nat) (hcc : cl9 + kc ≤ 601024) (hss : sl9 + ks ≤ 7293034), wp_L_law_1430 xs LL K l1 l2 l3 l4 l5 m0 kc ks → hp G (xA s.heap.size) m0 H → va_S (xA s.heap.size) s.heap H locs → lv_has ls 9 [(0, .ref b), (1, .ref l1), (2, .ref l2), (3, .ref l3), (4, .ref l4), (5, .int l5)] → W p l e room_1 s m #[Value.ref b] below meth c H locs cl9 sl9 (lw_Z below #[Value.ref b] s) (F0 m 1430 ls []) := by
  obtain ⟨hx, hb, hr, hml, hown, hts, hlocks, hK, hbase, hX⟩ := id C0
  have hbA : ¬ xA s.heap.size b := Nat.not_le.mpr hbl
  intro l1 l2 l3 l4 l5 m0 H locs ls cl9 sl9 kc ks hcc hss h hh hS hl
  unfold wp_L_law_1430 at h
  refine lv_aload_n hx hb dL_law_1430 rfl (lv_at hl 1 rfl) ?_
  refine lv_aload_n hx hb dL_law_1431 rfl (lv_at hl 0 rfl) ?_
  refine lv_iload hx hb dL_law_1432 (lv_at hl 5 rfl) ?_
  refine lv_iconst (v := 1) hx hb dL_law_1434 (by decide) ?_
  refine lv_iadd hx hb dL_law_1435 ?_
  obtain ⟨g506, h⟩ := h
  refine va_sld hx hb hXs hbl hbA hS g506 dL_law_1436 ?_
  refine lv_aload_n hx hb dL_law_1437 rfl (lv_at hl 0 rfl) ?_
  refine lv_iload hx hb dL_law_1438 (lv_at hl 5 rfl) ?_
  refine lv_iconst (v := 2) hx hb dL_law_1440 (by decide) ?_
  refine lv_iadd hx hb dL_law_1441 ?_
  obtain ⟨g507, h⟩ := h
  refine va_sld hx hb hXs hbl hbA hS g507 dL_law_1442 ?_
  refine lv_aload_n hx hb dL_law_1443 rfl (lv_at hl 0 rfl) ?_
  refine lv_iload hx hb dL_law_1444 (lv_at hl 5 rfl) ?_
  refine lv_iconst (v := 3) hx hb dL_law_1446 (by decide) ?_
  refine lv_iadd hx hb dL_law_1447 ?_
  obtain ⟨g508, h⟩ := h
  refine va_sld hx hb hXs hbl hbA hS g508 dL_law_1448 ?_
  refine lv_aload_n hx hb dL_law_1449 rfl (lv_at hl 3 rfl) ?_
  obtain ⟨g509, g510, h⟩ := h
  refine xt_i (vx_runSX (As := [.ref l1, .int (xs (l5 + (1 : Int32)).toNatClampNeg), .int (xs (l5 + (2 : Int32)).toNatClampNeg), .int (xs (l5 + (3 : Int32)).toNatClampNeg), .ref l3]) (rest := []) ⟨hx, hb, hml, hown, hts⟩ (mt_L_first l hl9 G (s.heap.size) h) (vx_cwSW 5 hts gL_law_L_first rfl rfl rfl (by decide +kernel) ⟨Nat.le_of_ble_eq_true rfl, Nat.le_of_ble_eq_true rfl⟩) (xp_S hbase hh hK hX hS) rfl rfl hl.1 rfl (lv_room (Nat.le_of_ble_eq_true rfl)) dL_law_1450 ⟨by show _ ≤ 601024; omega, by show _ ≤ 7293034; omega⟩) hS (fun k9 m9 H locs q9 ce h hh hS hc9 hv9 hcl9 => h.elim) (fun r511 m512 H locs h hh hS => ?_)
  obtain ⟨kc513, ekc513⟩ : ∃ z : Nat, z = kc - 4 := ⟨_, rfl⟩
  obtain ⟨ks514, eks514⟩ : ∃ z : Nat, z = ks - 24 := ⟨_, rfl⟩
  replace h := h kc513 ks514 ekc513 eks514
  obtain ⟨cl515, ecl515⟩ : ∃ z : Nat, z = cl9 + 4 := ⟨_, rfl⟩
  obtain ⟨sl516, esl516⟩ : ∃ z : Nat, z = sl9 + 24 := ⟨_, rfl⟩
  refine W_cs ecl515 esl516 ?_
  have hcc : cl515 + kc513 ≤ 601024 := by omega
  have hss : sl516 + ks514 ≤ 7293034 := by omega
  refine lv_istore (lv' := [(6, .int r511), (0, .ref b), (1, .ref l1), (2, .ref l2), (3, .ref l3), (4, .ref l4), (5, .int l5)]) hx hb dL_law_1453 hl (by decide) rfl (fun ls hl => ?_)
  refine lv_aload_n hx hb dL_law_1455 rfl (lv_at hl 3 rfl) ?_
  refine lv_aload_n hx hb dL_law_1456 rfl (lv_at hl 1 rfl) ?_
  refine lv_iload hx hb dL_law_1457 (lv_at hl 6 rfl) ?_
  refine lv_iconst (v := 1) hx hb dL_law_1459 (by decide) ?_
  refine lv_iadd hx hb dL_law_1460 ?_
  obtain ⟨g517, h⟩ := h
  refine va_sld hx hb hXs hbl hbA hS g517 dL_law_1461 ?_
  refine lv_aload_n hx hb dL_law_1462 rfl (lv_at hl 1 rfl) ?_
  refine lv_iload hx hb dL_law_1463 (lv_at hl 6 rfl) ?_
  refine lv_iconst (v := 2) hx hb dL_law_1465 (by decide) ?_
  refine lv_iadd hx hb dL_law_1466 ?_
  obtain ⟨g518, h⟩ := h
  refine va_sld hx hb hXs hbl hbA hS g518 dL_law_1467 ?_
  refine lv_aload_n hx hb dL_law_1468 rfl (lv_at hl 1 rfl) ?_
  refine lv_iload hx hb dL_law_1469 (lv_at hl 6 rfl) ?_
  refine lv_iconst (v := 3) hx hb dL_law_1471 (by decide) ?_
  refine lv_iadd hx hb dL_law_1472 ?_
  obtain ⟨g519, h⟩ := h
  refine va_sld hx hb hXs hbl hbA hS g519 dL_law_1473 ?_
  obtain ⟨g520, h⟩ := h
  refine xc_i (va_runV (As := [.int (xs (l5 + (1 : Int32)).toNatClampNeg), .int (xs (l5 + (2 : Int32)).toNatClampNeg), .int (xs (l5 + (3 : Int32)).toNatClampNeg)]) (rest := []) ⟨hx, hb, hml, hown, hts⟩ (mt_X6_first l G (s.heap.size) h) (cwV 3 hts gL_law_X6_first rfl rfl rfl (by decide +kernel) ⟨Nat.le_of_ble_eq_true rfl, Nat.le_of_ble_eq_true rfl⟩) (xp_V hbase hh hK hX hS (ci := 6) g520 (by decide) rfl) rfl rfl hl.1 rfl (lv_room (Nat.le_of_ble_eq_true rfl)) dL_law_1474 ⟨by show _ ≤ 601024; omega, by show _ ≤ 7293034; omega⟩) hS (fun r521 m522 H locs h hh hS => ?_)
  refine lv_istore (lv' := [(7, .int r521), (6, .int r511), (0, .ref b), (1, .ref l1), (2, .ref l2), (3, .ref l3), (4, .ref l4), (5, .int l5)]) hx hb dL_law_1477 hl (by decide) rfl (fun ls hl => ?_)
  refine lv_aload_n hx hb dL_law_1479 rfl (lv_at hl 4 rfl) ?_
  obtain ⟨g523, h⟩ := h
  refine xc_i (va_runV (As := []) (rest := []) ⟨hx, hb, hml, hown, hts⟩ (mt_X6_thrown l G (s.heap.size) h) (cwV 0 hts gL_law_X6_thrown rfl rfl rfl (by decide +kernel) ⟨Nat.le_of_ble_eq_true rfl, Nat.le_of_ble_eq_true rfl⟩) (xp_V hbase hh hK hX hS (ci := 6) g523 (by decide) rfl) rfl rfl hl.1 rfl (lv_room (Nat.le_of_ble_eq_true rfl)) dL_law_1480 ⟨by show _ ≤ 601024; omega, by show _ ≤ 7293034; omega⟩) hS (fun r524 m525 H locs h hh hS => ?_)
  refine lv_iload hx hb dL_law_1483 (lv_at hl 1 rfl) ?_
  refine lv_icmp_eq (tgt := 1490) hx hb dL_law_1485 (by decide) (fun c526 => ?_) (fun c526 => ?_)
  · replace h := h.1 c526
    refine lv_iload hx hb dL_law_1490 (lv_at hl 1 rfl) ?_
    refine lv_if_ne (tgt := 1507) hx hb dL_law_1492 (by decide) (fun c527 => ?_) (fun c527 => ?_)
    · replace h := h.1 c527
      refine lv_goto (tgt := 2255) hx hb dL_law_1507 (by decide) ?_
      obtain ⟨x528, ex528⟩ : ∃ y : Int32, y = l5 + 7 := ⟨_, rfl⟩
      replace h := h x528 ex528
      refine lv_iinc (v := x528) (lv' := [(5, .int x528), (7, .int r521), (6, .int r511), (0, .ref b), (1, .ref l1), (2, .ref l2), (3, .ref l3), (4, .ref l4)]) hx hb dL_law_2255 hl (k := 7) rfl (by rw [ex528]; rfl) (by decide) rfl (fun ls hl => ?_)
      refine lv_goto (tgt := 28) hx hb dL_law_2258 (by decide) ?_
      exact hK9 _ _ _ _ _ _ _ _ _ cl515 sl516 kc513 ks514 hcc hss h hh hS (lv_sub hl [3, 4, 5, 6, 7, 0] rfl)
    · replace h := h.2 c527
      refine lv_aload_n hx hb dL_law_1495 rfl (lv_at hl 5 rfl) ?_
      refine lv_iconst (v := 0) hx hb dL_law_1496 (by decide) ?_
      obtain ⟨g529, h⟩ := h
      obtain ⟨g530, h⟩ := h
      refine xr_lald hx hb hK hh g529 g530 dL_law_1497 ?_
      refine lv_iload hx hb dL_law_1498 (lv_at hl 0 rfl) ?_
      refine lv_i2l hx hb dL_law_1500 rfl ?_
      refine W.lcmp hx hb dL_law_1501 ?_
      refine lv_if_eq (tgt := 1507) hx hb dL_law_1502 (by decide) (fun c531 => ?_) (fun c531 => ?_)
      · replace h := h.1 c531
        refine lv_goto (tgt := 2255) hx hb dL_law_1507 (by decide) ?_
        obtain ⟨x532, ex532⟩ : ∃ y : Int32, y = l5 + 7 := ⟨_, rfl⟩
        replace h := h x532 ex532
        refine lv_iinc (v := x532) (lv' := [(5, .int x532), (7, .int r521), (6, .int r511), (0, .ref b), (1, .ref l1), (2, .ref l2), (3, .ref l3), (4, .ref l4)]) hx hb dL_law_2255 hl (k := 7) rfl (by rw [ex532]; rfl) (by decide) rfl (fun ls hl => ?_)
        refine lv_goto (tgt := 28) hx hb dL_law_2258 (by decide) ?_
        exact hK9 _ _ _ _ _ _ _ _ _ cl515 sl516 kc513 ks514 hcc hss h hh hS (lv_sub hl [3, 4, 5, 6, 7, 0] rfl)
      · replace h := h.2 c531
        refine lv_iconst (v := 0) hx hb dL_law_1505 (by decide) ?_
        exact h.elim
  · replace h := h.2 c526
    refine lv_iconst (v := 0) hx hb dL_law_1488 (by decide) ?_
    exact h.elim

set_option maxHeartbeats 4000000 in
set_option maxRecDepth 100000 in
theorem bk_L_law_1510 {b LL : Nat} {xs : Nat → Int32} {p : Program} {l : Launch} {e : Env} {s : State} {m : MethodId} {below : List Frame} {meth : Method} {c : Code} {G : GG} (C0 : BC p s m #[Value.ref b] meth c G s.heap.size RL cL_law 9 ret wsL_law) (hl9 : l.stackTraces = false) (hXs : va_X b LL xs s s.heap) (hbl : b < s.heap.size)  {K : Nat → Nat → Nat → Nat → Int32 → MM → Nat → Nat → Prop} (hK9 : ∀ (l1 : Nat) (l2 : Nat) (l3 : Nat) (l4 : Nat) (l5 : Int32) (m0 : MM) (H : Heap) (locs : List Loc) (ls : Array Slot) (cl9 sl9 kc ks : Nat) (hcc : cl9 + kc ≤ 601024) (hss : sl9 + ks ≤ 7293034), K l1 l2 l3 l4 l5 m0 kc ks → hp G (xA s.heap.size) m0 H → va_S (xA s.heap.size) s.heap H locs → lv_has ls 9 [(0, .ref b), (1, .ref l1), (2, .ref l2), (3, .ref l3), (4, .ref l4), (5, .int l5)] → W p l e room_1 s m #[Value.ref b] below meth c H locs cl9 sl9 (lw_Z below #[Value.ref b] s) (F0 m 28 ls [])) : ∀ (l1 : Nat) (l2 : Nat) (l3 : Nat) (l4 : Nat) (l5 : Int32) (m0 : MM) (H : Heap) (locs : List Loc) (ls : Array Slot) (cl9 sl9 kc ks : Nat) (hcc : cl9 + kc ≤ 601024) (hss : sl9 + ks ≤ 7293034), wp_L_law_1510 xs LL K l1 l2 l3 l4 l5 m0 kc ks → hp G (xA s.heap.size) m0 H → va_S (xA s.heap.size) s.heap H locs → lv_has ls 9 [(0, .ref b), (1, .ref l1), (2, .ref l2), (3, .ref l3), (4, .ref l4), (5, .int l5)] → W p l e room_1 s m #[Value.ref b] below meth c H locs cl9 sl9 (lw_Z below #[Value.ref b] s) (F0 m 1510 ls []) := by
  obtain ⟨hx, hb, hr, hml, hown, hts, hlocks, hK, hbase, hX⟩ := id C0
  have hbA : ¬ xA s.heap.size b := Nat.not_le.mpr hbl
  intro l1 l2 l3 l4 l5 m0 H locs ls cl9 sl9 kc ks hcc hss h hh hS hl
  unfold wp_L_law_1510 at h
  refine lv_aload_n hx hb dL_law_1510 rfl (lv_at hl 1 rfl) ?_
  refine lv_aload_n hx hb dL_law_1511 rfl (lv_at hl 0 rfl) ?_
  refine lv_iload hx hb dL_law_1512 (lv_at hl 5 rfl) ?_
  refine lv_iconst (v := 1) hx hb dL_law_1514 (by decide) ?_
  refine lv_iadd hx hb dL_law_1515 ?_
  obtain ⟨g533, h⟩ := h
  refine va_sld hx hb hXs hbl hbA hS g533 dL_law_1516 ?_
  refine lv_aload_n hx hb dL_law_1517 rfl (lv_at hl 0 rfl) ?_
  refine lv_iload hx hb dL_law_1518 (lv_at hl 5 rfl) ?_
  refine lv_iconst (v := 2) hx hb dL_law_1520 (by decide) ?_
  refine lv_iadd hx hb dL_law_1521 ?_
  obtain ⟨g534, h⟩ := h
  refine va_sld hx hb hXs hbl hbA hS g534 dL_law_1522 ?_
  refine lv_aload_n hx hb dL_law_1523 rfl (lv_at hl 0 rfl) ?_
  refine lv_iload hx hb dL_law_1524 (lv_at hl 5 rfl) ?_
  refine lv_iconst (v := 3) hx hb dL_law_1526 (by decide) ?_
  refine lv_iadd hx hb dL_law_1527 ?_
  obtain ⟨g535, h⟩ := h
  refine va_sld hx hb hXs hbl hbA hS g535 dL_law_1528 ?_
  refine lv_aload_n hx hb dL_law_1529 rfl (lv_at hl 3 rfl) ?_
  obtain ⟨g536, g537, h⟩ := h
  refine xt_i (vx_runSX (As := [.ref l1, .int (xs (l5 + (1 : Int32)).toNatClampNeg), .int (xs (l5 + (2 : Int32)).toNatClampNeg), .int (xs (l5 + (3 : Int32)).toNatClampNeg), .ref l3]) (rest := []) ⟨hx, hb, hml, hown, hts⟩ (mt_L_last l hl9 G (s.heap.size) h) (vx_cwSW 5 hts gL_law_L_last rfl rfl rfl (by decide +kernel) ⟨Nat.le_of_ble_eq_true rfl, Nat.le_of_ble_eq_true rfl⟩) (xp_S hbase hh hK hX hS) rfl rfl hl.1 rfl (lv_room (Nat.le_of_ble_eq_true rfl)) dL_law_1530 ⟨by show _ ≤ 601024; omega, by show _ ≤ 7293034; omega⟩) hS (fun k9 m9 H locs q9 ce h hh hS hc9 hv9 hcl9 => h.elim) (fun r538 m539 H locs h hh hS => ?_)
  obtain ⟨kc540, ekc540⟩ : ∃ z : Nat, z = kc - 4 := ⟨_, rfl⟩
  obtain ⟨ks541, eks541⟩ : ∃ z : Nat, z = ks - 24 := ⟨_, rfl⟩
  replace h := h kc540 ks541 ekc540 eks541
  obtain ⟨cl542, ecl542⟩ : ∃ z : Nat, z = cl9 + 4 := ⟨_, rfl⟩
  obtain ⟨sl543, esl543⟩ : ∃ z : Nat, z = sl9 + 24 := ⟨_, rfl⟩
  refine W_cs ecl542 esl543 ?_
  have hcc : cl542 + kc540 ≤ 601024 := by omega
  have hss : sl543 + ks541 ≤ 7293034 := by omega
  refine lv_istore (lv' := [(6, .int r538), (0, .ref b), (1, .ref l1), (2, .ref l2), (3, .ref l3), (4, .ref l4), (5, .int l5)]) hx hb dL_law_1533 hl (by decide) rfl (fun ls hl => ?_)
  refine lv_aload_n hx hb dL_law_1535 rfl (lv_at hl 3 rfl) ?_
  refine lv_aload_n hx hb dL_law_1536 rfl (lv_at hl 1 rfl) ?_
  refine lv_iload hx hb dL_law_1537 (lv_at hl 6 rfl) ?_
  refine lv_iconst (v := 1) hx hb dL_law_1539 (by decide) ?_
  refine lv_iadd hx hb dL_law_1540 ?_
  obtain ⟨g544, h⟩ := h
  refine va_sld hx hb hXs hbl hbA hS g544 dL_law_1541 ?_
  refine lv_aload_n hx hb dL_law_1542 rfl (lv_at hl 1 rfl) ?_
  refine lv_iload hx hb dL_law_1543 (lv_at hl 6 rfl) ?_
  refine lv_iconst (v := 2) hx hb dL_law_1545 (by decide) ?_
  refine lv_iadd hx hb dL_law_1546 ?_
  obtain ⟨g545, h⟩ := h
  refine va_sld hx hb hXs hbl hbA hS g545 dL_law_1547 ?_
  refine lv_aload_n hx hb dL_law_1548 rfl (lv_at hl 1 rfl) ?_
  refine lv_iload hx hb dL_law_1549 (lv_at hl 6 rfl) ?_
  refine lv_iconst (v := 3) hx hb dL_law_1551 (by decide) ?_
  refine lv_iadd hx hb dL_law_1552 ?_
  obtain ⟨g546, h⟩ := h
  refine va_sld hx hb hXs hbl hbA hS g546 dL_law_1553 ?_
  obtain ⟨g547, h⟩ := h
  refine xc_i (va_runV (As := [.int (xs (l5 + (1 : Int32)).toNatClampNeg), .int (xs (l5 + (2 : Int32)).toNatClampNeg), .int (xs (l5 + (3 : Int32)).toNatClampNeg)]) (rest := []) ⟨hx, hb, hml, hown, hts⟩ (mt_X6_last l G (s.heap.size) h) (cwV 3 hts gL_law_X6_last rfl rfl rfl (by decide +kernel) ⟨Nat.le_of_ble_eq_true rfl, Nat.le_of_ble_eq_true rfl⟩) (xp_V hbase hh hK hX hS (ci := 6) g547 (by decide) rfl) rfl rfl hl.1 rfl (lv_room (Nat.le_of_ble_eq_true rfl)) dL_law_1554 ⟨by show _ ≤ 601024; omega, by show _ ≤ 7293034; omega⟩) hS (fun r548 m549 H locs h hh hS => ?_)
  refine lv_istore (lv' := [(7, .int r548), (6, .int r538), (0, .ref b), (1, .ref l1), (2, .ref l2), (3, .ref l3), (4, .ref l4), (5, .int l5)]) hx hb dL_law_1557 hl (by decide) rfl (fun ls hl => ?_)
  refine lv_aload_n hx hb dL_law_1559 rfl (lv_at hl 4 rfl) ?_
  obtain ⟨g550, h⟩ := h
  refine xc_i (va_runV (As := []) (rest := []) ⟨hx, hb, hml, hown, hts⟩ (mt_X6_thrown l G (s.heap.size) h) (cwV 0 hts gL_law_X6_thrown rfl rfl rfl (by decide +kernel) ⟨Nat.le_of_ble_eq_true rfl, Nat.le_of_ble_eq_true rfl⟩) (xp_V hbase hh hK hX hS (ci := 6) g550 (by decide) rfl) rfl rfl hl.1 rfl (lv_room (Nat.le_of_ble_eq_true rfl)) dL_law_1560 ⟨by show _ ≤ 601024; omega, by show _ ≤ 7293034; omega⟩) hS (fun r551 m552 H locs h hh hS => ?_)
  refine lv_iload hx hb dL_law_1563 (lv_at hl 1 rfl) ?_
  refine lv_icmp_eq (tgt := 1570) hx hb dL_law_1565 (by decide) (fun c553 => ?_) (fun c553 => ?_)
  · replace h := h.1 c553
    refine lv_iload hx hb dL_law_1570 (lv_at hl 1 rfl) ?_
    refine lv_if_ne (tgt := 1587) hx hb dL_law_1572 (by decide) (fun c554 => ?_) (fun c554 => ?_)
    · replace h := h.1 c554
      refine lv_goto (tgt := 2255) hx hb dL_law_1587 (by decide) ?_
      obtain ⟨x555, ex555⟩ : ∃ y : Int32, y = l5 + 7 := ⟨_, rfl⟩
      replace h := h x555 ex555
      refine lv_iinc (v := x555) (lv' := [(5, .int x555), (7, .int r548), (6, .int r538), (0, .ref b), (1, .ref l1), (2, .ref l2), (3, .ref l3), (4, .ref l4)]) hx hb dL_law_2255 hl (k := 7) rfl (by rw [ex555]; rfl) (by decide) rfl (fun ls hl => ?_)
      refine lv_goto (tgt := 28) hx hb dL_law_2258 (by decide) ?_
      exact hK9 _ _ _ _ _ _ _ _ _ cl542 sl543 kc540 ks541 hcc hss h hh hS (lv_sub hl [3, 4, 5, 6, 7, 0] rfl)
    · replace h := h.2 c554
      refine lv_aload_n hx hb dL_law_1575 rfl (lv_at hl 5 rfl) ?_
      refine lv_iconst (v := 0) hx hb dL_law_1576 (by decide) ?_
      obtain ⟨g556, h⟩ := h
      obtain ⟨g557, h⟩ := h
      refine xr_lald hx hb hK hh g556 g557 dL_law_1577 ?_
      refine lv_iload hx hb dL_law_1578 (lv_at hl 0 rfl) ?_
      refine lv_i2l hx hb dL_law_1580 rfl ?_
      refine W.lcmp hx hb dL_law_1581 ?_
      refine lv_if_eq (tgt := 1587) hx hb dL_law_1582 (by decide) (fun c558 => ?_) (fun c558 => ?_)
      · replace h := h.1 c558
        refine lv_goto (tgt := 2255) hx hb dL_law_1587 (by decide) ?_
        obtain ⟨x559, ex559⟩ : ∃ y : Int32, y = l5 + 7 := ⟨_, rfl⟩
        replace h := h x559 ex559
        refine lv_iinc (v := x559) (lv' := [(5, .int x559), (7, .int r548), (6, .int r538), (0, .ref b), (1, .ref l1), (2, .ref l2), (3, .ref l3), (4, .ref l4)]) hx hb dL_law_2255 hl (k := 7) rfl (by rw [ex559]; rfl) (by decide) rfl (fun ls hl => ?_)
        refine lv_goto (tgt := 28) hx hb dL_law_2258 (by decide) ?_
        exact hK9 _ _ _ _ _ _ _ _ _ cl542 sl543 kc540 ks541 hcc hss h hh hS (lv_sub hl [3, 4, 5, 6, 7, 0] rfl)
      · replace h := h.2 c558
        refine lv_iconst (v := 0) hx hb dL_law_1585 (by decide) ?_
        exact h.elim
  · replace h := h.2 c553
    refine lv_iconst (v := 0) hx hb dL_law_1568 (by decide) ?_
    exact h.elim

set_option maxHeartbeats 4000000 in
set_option maxRecDepth 100000 in
theorem bk_L_law_1590 {b LL : Nat} {xs : Nat → Int32} {p : Program} {l : Launch} {e : Env} {s : State} {m : MethodId} {below : List Frame} {meth : Method} {c : Code} {G : GG} (C0 : BC p s m #[Value.ref b] meth c G s.heap.size RL cL_law 9 ret wsL_law) (hl9 : l.stackTraces = false) (hXs : va_X b LL xs s s.heap) (hbl : b < s.heap.size)  {K : Nat → Nat → Nat → Nat → Int32 → MM → Nat → Nat → Prop} (hK9 : ∀ (l1 : Nat) (l2 : Nat) (l3 : Nat) (l4 : Nat) (l5 : Int32) (m0 : MM) (H : Heap) (locs : List Loc) (ls : Array Slot) (cl9 sl9 kc ks : Nat) (hcc : cl9 + kc ≤ 601024) (hss : sl9 + ks ≤ 7293034), K l1 l2 l3 l4 l5 m0 kc ks → hp G (xA s.heap.size) m0 H → va_S (xA s.heap.size) s.heap H locs → lv_has ls 9 [(0, .ref b), (1, .ref l1), (2, .ref l2), (3, .ref l3), (4, .ref l4), (5, .int l5)] → W p l e room_1 s m #[Value.ref b] below meth c H locs cl9 sl9 (lw_Z below #[Value.ref b] s) (F0 m 28 ls [])) : ∀ (l1 : Nat) (l2 : Nat) (l3 : Nat) (l4 : Nat) (l5 : Int32) (m0 : MM) (H : Heap) (locs : List Loc) (ls : Array Slot) (cl9 sl9 kc ks : Nat) (hcc : cl9 + kc ≤ 601024) (hss : sl9 + ks ≤ 7293034), wp_L_law_1590 xs LL K l1 l2 l3 l4 l5 m0 kc ks → hp G (xA s.heap.size) m0 H → va_S (xA s.heap.size) s.heap H locs → lv_has ls 9 [(0, .ref b), (1, .ref l1), (2, .ref l2), (3, .ref l3), (4, .ref l4), (5, .int l5)] → W p l e room_1 s m #[Value.ref b] below meth c H locs cl9 sl9 (lw_Z below #[Value.ref b] s) (F0 m 1590 ls []) := by
  obtain ⟨hx, hb, hr, hml, hown, hts, hlocks, hK, hbase, hX⟩ := id C0
  have hbA : ¬ xA s.heap.size b := Nat.not_le.mpr hbl
  intro l1 l2 l3 l4 l5 m0 H locs ls cl9 sl9 kc ks hcc hss h hh hS hl
  unfold wp_L_law_1590 at h
  refine lv_aload_n hx hb dL_law_1590 rfl (lv_at hl 1 rfl) ?_
  refine lv_aload_n hx hb dL_law_1591 rfl (lv_at hl 0 rfl) ?_
  refine lv_iload hx hb dL_law_1592 (lv_at hl 5 rfl) ?_
  refine lv_iconst (v := 1) hx hb dL_law_1594 (by decide) ?_
  refine lv_iadd hx hb dL_law_1595 ?_
  obtain ⟨g560, h⟩ := h
  refine va_sld hx hb hXs hbl hbA hS g560 dL_law_1596 ?_
  refine lv_aload_n hx hb dL_law_1597 rfl (lv_at hl 0 rfl) ?_
  refine lv_iload hx hb dL_law_1598 (lv_at hl 5 rfl) ?_
  refine lv_iconst (v := 2) hx hb dL_law_1600 (by decide) ?_
  refine lv_iadd hx hb dL_law_1601 ?_
  obtain ⟨g561, h⟩ := h
  refine va_sld hx hb hXs hbl hbA hS g561 dL_law_1602 ?_
  refine lv_aload_n hx hb dL_law_1603 rfl (lv_at hl 0 rfl) ?_
  refine lv_iload hx hb dL_law_1604 (lv_at hl 5 rfl) ?_
  refine lv_iconst (v := 3) hx hb dL_law_1606 (by decide) ?_
  refine lv_iadd hx hb dL_law_1607 ?_
  obtain ⟨g562, h⟩ := h
  refine va_sld hx hb hXs hbl hbA hS g562 dL_law_1608 ?_
  refine lv_aload_n hx hb dL_law_1609 rfl (lv_at hl 0 rfl) ?_
  refine lv_iload hx hb dL_law_1610 (lv_at hl 5 rfl) ?_
  refine lv_iconst (v := 4) hx hb dL_law_1612 (by decide) ?_
  refine lv_iadd hx hb dL_law_1613 ?_
  obtain ⟨g563, h⟩ := h
  refine va_sld hx hb hXs hbl hbA hS g563 dL_law_1614 ?_
  refine lv_aload_n hx hb dL_law_1615 rfl (lv_at hl 3 rfl) ?_
  obtain ⟨g564, g565, h⟩ := h
  refine xt_i (vx_runSX (As := [.ref l1, .int (xs (l5 + (1 : Int32)).toNatClampNeg), .int (xs (l5 + (2 : Int32)).toNatClampNeg), .int (xs (l5 + (3 : Int32)).toNatClampNeg), .int (xs (l5 + (4 : Int32)).toNatClampNeg), .ref l3]) (rest := []) ⟨hx, hb, hml, hown, hts⟩ (mt_L_filled l hl9 G (s.heap.size) h) (vx_cwSW 6 hts gL_law_L_filled rfl rfl rfl (by decide +kernel) ⟨Nat.le_of_ble_eq_true rfl, Nat.le_of_ble_eq_true rfl⟩) (xp_S hbase hh hK hX hS) rfl rfl hl.1 rfl (lv_room (Nat.le_of_ble_eq_true rfl)) dL_law_1616 ⟨by show _ ≤ 601024; omega, by show _ ≤ 7293034; omega⟩) hS (fun k9 m9 H locs q9 ce h hh hS hc9 hv9 hcl9 => h.elim) (fun r566 m567 H locs h hh hS => ?_)
  obtain ⟨kc568, ekc568⟩ : ∃ z : Nat, z = kc - 5 := ⟨_, rfl⟩
  obtain ⟨ks569, eks569⟩ : ∃ z : Nat, z = ks - 30 := ⟨_, rfl⟩
  replace h := h kc568 ks569 ekc568 eks569
  obtain ⟨cl570, ecl570⟩ : ∃ z : Nat, z = cl9 + 5 := ⟨_, rfl⟩
  obtain ⟨sl571, esl571⟩ : ∃ z : Nat, z = sl9 + 30 := ⟨_, rfl⟩
  refine W_cs ecl570 esl571 ?_
  have hcc : cl570 + kc568 ≤ 601024 := by omega
  have hss : sl571 + ks569 ≤ 7293034 := by omega
  refine lv_istore (lv' := [(6, .int r566), (0, .ref b), (1, .ref l1), (2, .ref l2), (3, .ref l3), (4, .ref l4), (5, .int l5)]) hx hb dL_law_1619 hl (by decide) rfl (fun ls hl => ?_)
  refine lv_aload_n hx hb dL_law_1621 rfl (lv_at hl 3 rfl) ?_
  refine lv_aload_n hx hb dL_law_1622 rfl (lv_at hl 1 rfl) ?_
  refine lv_iload hx hb dL_law_1623 (lv_at hl 6 rfl) ?_
  refine lv_iconst (v := 1) hx hb dL_law_1625 (by decide) ?_
  refine lv_iadd hx hb dL_law_1626 ?_
  obtain ⟨g572, h⟩ := h
  refine va_sld hx hb hXs hbl hbA hS g572 dL_law_1627 ?_
  refine lv_aload_n hx hb dL_law_1628 rfl (lv_at hl 1 rfl) ?_
  refine lv_iload hx hb dL_law_1629 (lv_at hl 6 rfl) ?_
  refine lv_iconst (v := 2) hx hb dL_law_1631 (by decide) ?_
  refine lv_iadd hx hb dL_law_1632 ?_
  obtain ⟨g573, h⟩ := h
  refine va_sld hx hb hXs hbl hbA hS g573 dL_law_1633 ?_
  refine lv_aload_n hx hb dL_law_1634 rfl (lv_at hl 1 rfl) ?_
  refine lv_iload hx hb dL_law_1635 (lv_at hl 6 rfl) ?_
  refine lv_iconst (v := 3) hx hb dL_law_1637 (by decide) ?_
  refine lv_iadd hx hb dL_law_1638 ?_
  obtain ⟨g574, h⟩ := h
  refine va_sld hx hb hXs hbl hbA hS g574 dL_law_1639 ?_
  refine lv_aload_n hx hb dL_law_1640 rfl (lv_at hl 1 rfl) ?_
  refine lv_iload hx hb dL_law_1641 (lv_at hl 6 rfl) ?_
  refine lv_iconst (v := 4) hx hb dL_law_1643 (by decide) ?_
  refine lv_iadd hx hb dL_law_1644 ?_
  obtain ⟨g575, h⟩ := h
  refine va_sld hx hb hXs hbl hbA hS g575 dL_law_1645 ?_
  obtain ⟨g576, h⟩ := h
  refine xc_i (va_runV (As := [.int (xs (l5 + (1 : Int32)).toNatClampNeg), .int (xs (l5 + (2 : Int32)).toNatClampNeg), .int (xs (l5 + (3 : Int32)).toNatClampNeg), .int (xs (l5 + (4 : Int32)).toNatClampNeg)]) (rest := []) ⟨hx, hb, hml, hown, hts⟩ (mt_X6_filled l G (s.heap.size) h) (cwV 4 hts gL_law_X6_filled rfl rfl rfl (by decide +kernel) ⟨Nat.le_of_ble_eq_true rfl, Nat.le_of_ble_eq_true rfl⟩) (xp_V hbase hh hK hX hS (ci := 6) g576 (by decide) rfl) rfl rfl hl.1 rfl (lv_room (Nat.le_of_ble_eq_true rfl)) dL_law_1646 ⟨by show _ ≤ 601024; omega, by show _ ≤ 7293034; omega⟩) hS (fun r577 m578 H locs h hh hS => ?_)
  refine lv_istore (lv' := [(7, .int r577), (6, .int r566), (0, .ref b), (1, .ref l1), (2, .ref l2), (3, .ref l3), (4, .ref l4), (5, .int l5)]) hx hb dL_law_1649 hl (by decide) rfl (fun ls hl => ?_)
  refine lv_aload_n hx hb dL_law_1651 rfl (lv_at hl 4 rfl) ?_
  obtain ⟨g579, h⟩ := h
  refine xc_i (va_runV (As := []) (rest := []) ⟨hx, hb, hml, hown, hts⟩ (mt_X6_thrown l G (s.heap.size) h) (cwV 0 hts gL_law_X6_thrown rfl rfl rfl (by decide +kernel) ⟨Nat.le_of_ble_eq_true rfl, Nat.le_of_ble_eq_true rfl⟩) (xp_V hbase hh hK hX hS (ci := 6) g579 (by decide) rfl) rfl rfl hl.1 rfl (lv_room (Nat.le_of_ble_eq_true rfl)) dL_law_1652 ⟨by show _ ≤ 601024; omega, by show _ ≤ 7293034; omega⟩) hS (fun r580 m581 H locs h hh hS => ?_)
  refine lv_iload hx hb dL_law_1655 (lv_at hl 1 rfl) ?_
  refine lv_icmp_eq (tgt := 1662) hx hb dL_law_1657 (by decide) (fun c582 => ?_) (fun c582 => ?_)
  · replace h := h.1 c582
    refine lv_iload hx hb dL_law_1662 (lv_at hl 1 rfl) ?_
    refine lv_if_ne (tgt := 1679) hx hb dL_law_1664 (by decide) (fun c583 => ?_) (fun c583 => ?_)
    · replace h := h.1 c583
      refine lv_goto (tgt := 2255) hx hb dL_law_1679 (by decide) ?_
      obtain ⟨x584, ex584⟩ : ∃ y : Int32, y = l5 + 7 := ⟨_, rfl⟩
      replace h := h x584 ex584
      refine lv_iinc (v := x584) (lv' := [(5, .int x584), (7, .int r577), (6, .int r566), (0, .ref b), (1, .ref l1), (2, .ref l2), (3, .ref l3), (4, .ref l4)]) hx hb dL_law_2255 hl (k := 7) rfl (by rw [ex584]; rfl) (by decide) rfl (fun ls hl => ?_)
      refine lv_goto (tgt := 28) hx hb dL_law_2258 (by decide) ?_
      exact hK9 _ _ _ _ _ _ _ _ _ cl570 sl571 kc568 ks569 hcc hss h hh hS (lv_sub hl [3, 4, 5, 6, 7, 0] rfl)
    · replace h := h.2 c583
      refine lv_aload_n hx hb dL_law_1667 rfl (lv_at hl 5 rfl) ?_
      refine lv_iconst (v := 0) hx hb dL_law_1668 (by decide) ?_
      obtain ⟨g585, h⟩ := h
      obtain ⟨g586, h⟩ := h
      refine xr_lald hx hb hK hh g585 g586 dL_law_1669 ?_
      refine lv_iload hx hb dL_law_1670 (lv_at hl 0 rfl) ?_
      refine lv_i2l hx hb dL_law_1672 rfl ?_
      refine W.lcmp hx hb dL_law_1673 ?_
      refine lv_if_eq (tgt := 1679) hx hb dL_law_1674 (by decide) (fun c587 => ?_) (fun c587 => ?_)
      · replace h := h.1 c587
        refine lv_goto (tgt := 2255) hx hb dL_law_1679 (by decide) ?_
        obtain ⟨x588, ex588⟩ : ∃ y : Int32, y = l5 + 7 := ⟨_, rfl⟩
        replace h := h x588 ex588
        refine lv_iinc (v := x588) (lv' := [(5, .int x588), (7, .int r577), (6, .int r566), (0, .ref b), (1, .ref l1), (2, .ref l2), (3, .ref l3), (4, .ref l4)]) hx hb dL_law_2255 hl (k := 7) rfl (by rw [ex588]; rfl) (by decide) rfl (fun ls hl => ?_)
        refine lv_goto (tgt := 28) hx hb dL_law_2258 (by decide) ?_
        exact hK9 _ _ _ _ _ _ _ _ _ cl570 sl571 kc568 ks569 hcc hss h hh hS (lv_sub hl [3, 4, 5, 6, 7, 0] rfl)
      · replace h := h.2 c587
        refine lv_iconst (v := 0) hx hb dL_law_1677 (by decide) ?_
        exact h.elim
  · replace h := h.2 c582
    refine lv_iconst (v := 0) hx hb dL_law_1660 (by decide) ?_
    exact h.elim

set_option maxHeartbeats 4000000 in
set_option maxRecDepth 100000 in
theorem bk_L_law_1682 {b LL : Nat} {xs : Nat → Int32} {p : Program} {l : Launch} {e : Env} {s : State} {m : MethodId} {below : List Frame} {meth : Method} {c : Code} {G : GG} (C0 : BC p s m #[Value.ref b] meth c G s.heap.size RL cL_law 9 ret wsL_law) (hl9 : l.stackTraces = false) (hXs : va_X b LL xs s s.heap) (hbl : b < s.heap.size)  {K : Nat → Nat → Nat → Nat → Int32 → MM → Nat → Nat → Prop} (hK9 : ∀ (l1 : Nat) (l2 : Nat) (l3 : Nat) (l4 : Nat) (l5 : Int32) (m0 : MM) (H : Heap) (locs : List Loc) (ls : Array Slot) (cl9 sl9 kc ks : Nat) (hcc : cl9 + kc ≤ 601024) (hss : sl9 + ks ≤ 7293034), K l1 l2 l3 l4 l5 m0 kc ks → hp G (xA s.heap.size) m0 H → va_S (xA s.heap.size) s.heap H locs → lv_has ls 9 [(0, .ref b), (1, .ref l1), (2, .ref l2), (3, .ref l3), (4, .ref l4), (5, .int l5)] → W p l e room_1 s m #[Value.ref b] below meth c H locs cl9 sl9 (lw_Z below #[Value.ref b] s) (F0 m 28 ls [])) : ∀ (l1 : Nat) (l2 : Nat) (l3 : Nat) (l4 : Nat) (l5 : Int32) (m0 : MM) (H : Heap) (locs : List Loc) (ls : Array Slot) (cl9 sl9 kc ks : Nat) (hcc : cl9 + kc ≤ 601024) (hss : sl9 + ks ≤ 7293034), wp_L_law_1682 xs LL K l1 l2 l3 l4 l5 m0 kc ks → hp G (xA s.heap.size) m0 H → va_S (xA s.heap.size) s.heap H locs → lv_has ls 9 [(0, .ref b), (1, .ref l1), (2, .ref l2), (3, .ref l3), (4, .ref l4), (5, .int l5)] → W p l e room_1 s m #[Value.ref b] below meth c H locs cl9 sl9 (lw_Z below #[Value.ref b] s) (F0 m 1682 ls []) := by
  obtain ⟨hx, hb, hr, hml, hown, hts, hlocks, hK, hbase, hX⟩ := id C0
  have hbA : ¬ xA s.heap.size b := Nat.not_le.mpr hbl
  intro l1 l2 l3 l4 l5 m0 H locs ls cl9 sl9 kc ks hcc hss h hh hS hl
  unfold wp_L_law_1682 at h
  refine lv_aload_n hx hb dL_law_1682 rfl (lv_at hl 1 rfl) ?_
  refine lv_aload_n hx hb dL_law_1683 rfl (lv_at hl 0 rfl) ?_
  refine lv_iload hx hb dL_law_1684 (lv_at hl 5 rfl) ?_
  refine lv_iconst (v := 1) hx hb dL_law_1686 (by decide) ?_
  refine lv_iadd hx hb dL_law_1687 ?_
  obtain ⟨g589, h⟩ := h
  refine va_sld hx hb hXs hbl hbA hS g589 dL_law_1688 ?_
  refine lv_aload_n hx hb dL_law_1689 rfl (lv_at hl 0 rfl) ?_
  refine lv_iload hx hb dL_law_1690 (lv_at hl 5 rfl) ?_
  refine lv_iconst (v := 2) hx hb dL_law_1692 (by decide) ?_
  refine lv_iadd hx hb dL_law_1693 ?_
  obtain ⟨g590, h⟩ := h
  refine va_sld hx hb hXs hbl hbA hS g590 dL_law_1694 ?_
  refine lv_aload_n hx hb dL_law_1695 rfl (lv_at hl 3 rfl) ?_
  obtain ⟨g591, g592, h⟩ := h
  refine xt_i (vx_runSX (As := [.ref l1, .int (xs (l5 + (1 : Int32)).toNatClampNeg), .int (xs (l5 + (2 : Int32)).toNatClampNeg), .ref l3]) (rest := []) ⟨hx, hb, hml, hown, hts⟩ (mt_L_parts l hl9 G (s.heap.size) h) (vx_cwSW 4 hts gL_law_L_parts rfl rfl rfl (by decide +kernel) ⟨Nat.le_of_ble_eq_true rfl, Nat.le_of_ble_eq_true rfl⟩) (xp_S hbase hh hK hX hS) rfl rfl hl.1 rfl (lv_room (Nat.le_of_ble_eq_true rfl)) dL_law_1696 ⟨by show _ ≤ 601024; omega, by show _ ≤ 7293034; omega⟩) hS (fun k9 m9 H locs q9 ce h hh hS hc9 hv9 hcl9 => h.elim) (fun r593 m594 H locs h hh hS => ?_)
  obtain ⟨kc595, ekc595⟩ : ∃ z : Nat, z = kc - 1 := ⟨_, rfl⟩
  obtain ⟨ks596, eks596⟩ : ∃ z : Nat, z = ks - 6 := ⟨_, rfl⟩
  replace h := h kc595 ks596 ekc595 eks596
  obtain ⟨cl597, ecl597⟩ : ∃ z : Nat, z = cl9 + 1 := ⟨_, rfl⟩
  obtain ⟨sl598, esl598⟩ : ∃ z : Nat, z = sl9 + 6 := ⟨_, rfl⟩
  refine W_cs ecl597 esl598 ?_
  have hcc : cl597 + kc595 ≤ 601024 := by omega
  have hss : sl598 + ks596 ≤ 7293034 := by omega
  refine lv_istore (lv' := [(6, .int r593), (0, .ref b), (1, .ref l1), (2, .ref l2), (3, .ref l3), (4, .ref l4), (5, .int l5)]) hx hb dL_law_1699 hl (by decide) rfl (fun ls hl => ?_)
  refine lv_aload_n hx hb dL_law_1701 rfl (lv_at hl 3 rfl) ?_
  refine lv_aload_n hx hb dL_law_1702 rfl (lv_at hl 1 rfl) ?_
  refine lv_iload hx hb dL_law_1703 (lv_at hl 6 rfl) ?_
  refine lv_iconst (v := 1) hx hb dL_law_1705 (by decide) ?_
  refine lv_iadd hx hb dL_law_1706 ?_
  obtain ⟨g599, h⟩ := h
  refine va_sld hx hb hXs hbl hbA hS g599 dL_law_1707 ?_
  refine lv_aload_n hx hb dL_law_1708 rfl (lv_at hl 1 rfl) ?_
  refine lv_iload hx hb dL_law_1709 (lv_at hl 6 rfl) ?_
  refine lv_iconst (v := 2) hx hb dL_law_1711 (by decide) ?_
  refine lv_iadd hx hb dL_law_1712 ?_
  obtain ⟨g600, h⟩ := h
  refine va_sld hx hb hXs hbl hbA hS g600 dL_law_1713 ?_
  obtain ⟨g601, h⟩ := h
  refine xc_i (va_runV (As := [.int (xs (l5 + (1 : Int32)).toNatClampNeg), .int (xs (l5 + (2 : Int32)).toNatClampNeg)]) (rest := []) ⟨hx, hb, hml, hown, hts⟩ (mt_X6_parts l G (s.heap.size) h) (cwV 2 hts gL_law_X6_parts rfl rfl rfl (by decide +kernel) ⟨Nat.le_of_ble_eq_true rfl, Nat.le_of_ble_eq_true rfl⟩) (xp_V hbase hh hK hX hS (ci := 6) g601 (by decide) rfl) rfl rfl hl.1 rfl (lv_room (Nat.le_of_ble_eq_true rfl)) dL_law_1714 ⟨by show _ ≤ 601024; omega, by show _ ≤ 7293034; omega⟩) hS (fun r602 m603 H locs h hh hS => ?_)
  refine lv_istore (lv' := [(7, .int r602), (6, .int r593), (0, .ref b), (1, .ref l1), (2, .ref l2), (3, .ref l3), (4, .ref l4), (5, .int l5)]) hx hb dL_law_1717 hl (by decide) rfl (fun ls hl => ?_)
  refine lv_aload_n hx hb dL_law_1719 rfl (lv_at hl 4 rfl) ?_
  obtain ⟨g604, h⟩ := h
  refine xc_i (va_runV (As := []) (rest := []) ⟨hx, hb, hml, hown, hts⟩ (mt_X6_thrown l G (s.heap.size) h) (cwV 0 hts gL_law_X6_thrown rfl rfl rfl (by decide +kernel) ⟨Nat.le_of_ble_eq_true rfl, Nat.le_of_ble_eq_true rfl⟩) (xp_V hbase hh hK hX hS (ci := 6) g604 (by decide) rfl) rfl rfl hl.1 rfl (lv_room (Nat.le_of_ble_eq_true rfl)) dL_law_1720 ⟨by show _ ≤ 601024; omega, by show _ ≤ 7293034; omega⟩) hS (fun r605 m606 H locs h hh hS => ?_)
  refine lv_iload hx hb dL_law_1723 (lv_at hl 1 rfl) ?_
  refine lv_icmp_eq (tgt := 1730) hx hb dL_law_1725 (by decide) (fun c607 => ?_) (fun c607 => ?_)
  · replace h := h.1 c607
    refine lv_iload hx hb dL_law_1730 (lv_at hl 1 rfl) ?_
    refine lv_if_ne (tgt := 1747) hx hb dL_law_1732 (by decide) (fun c608 => ?_) (fun c608 => ?_)
    · replace h := h.1 c608
      refine lv_goto (tgt := 2255) hx hb dL_law_1747 (by decide) ?_
      obtain ⟨x609, ex609⟩ : ∃ y : Int32, y = l5 + 7 := ⟨_, rfl⟩
      replace h := h x609 ex609
      refine lv_iinc (v := x609) (lv' := [(5, .int x609), (7, .int r602), (6, .int r593), (0, .ref b), (1, .ref l1), (2, .ref l2), (3, .ref l3), (4, .ref l4)]) hx hb dL_law_2255 hl (k := 7) rfl (by rw [ex609]; rfl) (by decide) rfl (fun ls hl => ?_)
      refine lv_goto (tgt := 28) hx hb dL_law_2258 (by decide) ?_
      exact hK9 _ _ _ _ _ _ _ _ _ cl597 sl598 kc595 ks596 hcc hss h hh hS (lv_sub hl [3, 4, 5, 6, 7, 0] rfl)
    · replace h := h.2 c608
      refine lv_aload_n hx hb dL_law_1735 rfl (lv_at hl 5 rfl) ?_
      refine lv_iconst (v := 0) hx hb dL_law_1736 (by decide) ?_
      obtain ⟨g610, h⟩ := h
      obtain ⟨g611, h⟩ := h
      refine xr_lald hx hb hK hh g610 g611 dL_law_1737 ?_
      refine lv_iload hx hb dL_law_1738 (lv_at hl 0 rfl) ?_
      refine lv_i2l hx hb dL_law_1740 rfl ?_
      refine W.lcmp hx hb dL_law_1741 ?_
      refine lv_if_eq (tgt := 1747) hx hb dL_law_1742 (by decide) (fun c612 => ?_) (fun c612 => ?_)
      · replace h := h.1 c612
        refine lv_goto (tgt := 2255) hx hb dL_law_1747 (by decide) ?_
        obtain ⟨x613, ex613⟩ : ∃ y : Int32, y = l5 + 7 := ⟨_, rfl⟩
        replace h := h x613 ex613
        refine lv_iinc (v := x613) (lv' := [(5, .int x613), (7, .int r602), (6, .int r593), (0, .ref b), (1, .ref l1), (2, .ref l2), (3, .ref l3), (4, .ref l4)]) hx hb dL_law_2255 hl (k := 7) rfl (by rw [ex613]; rfl) (by decide) rfl (fun ls hl => ?_)
        refine lv_goto (tgt := 28) hx hb dL_law_2258 (by decide) ?_
        exact hK9 _ _ _ _ _ _ _ _ _ cl597 sl598 kc595 ks596 hcc hss h hh hS (lv_sub hl [3, 4, 5, 6, 7, 0] rfl)
      · replace h := h.2 c612
        refine lv_iconst (v := 0) hx hb dL_law_1745 (by decide) ?_
        exact h.elim
  · replace h := h.2 c607
    refine lv_iconst (v := 0) hx hb dL_law_1728 (by decide) ?_
    exact h.elim

set_option maxHeartbeats 4000000 in
set_option maxRecDepth 100000 in
theorem bk_L_law_1750 {b LL : Nat} {xs : Nat → Int32} {p : Program} {l : Launch} {e : Env} {s : State} {m : MethodId} {below : List Frame} {meth : Method} {c : Code} {G : GG} (C0 : BC p s m #[Value.ref b] meth c G s.heap.size RL cL_law 9 ret wsL_law) (hl9 : l.stackTraces = false) (hXs : va_X b LL xs s s.heap) (hbl : b < s.heap.size)  {K : Nat → Nat → Nat → Nat → Int32 → MM → Nat → Nat → Prop} (hK9 : ∀ (l1 : Nat) (l2 : Nat) (l3 : Nat) (l4 : Nat) (l5 : Int32) (m0 : MM) (H : Heap) (locs : List Loc) (ls : Array Slot) (cl9 sl9 kc ks : Nat) (hcc : cl9 + kc ≤ 601024) (hss : sl9 + ks ≤ 7293034), K l1 l2 l3 l4 l5 m0 kc ks → hp G (xA s.heap.size) m0 H → va_S (xA s.heap.size) s.heap H locs → lv_has ls 9 [(0, .ref b), (1, .ref l1), (2, .ref l2), (3, .ref l3), (4, .ref l4), (5, .int l5)] → W p l e room_1 s m #[Value.ref b] below meth c H locs cl9 sl9 (lw_Z below #[Value.ref b] s) (F0 m 28 ls [])) : ∀ (l1 : Nat) (l2 : Nat) (l3 : Nat) (l4 : Nat) (l5 : Int32) (m0 : MM) (H : Heap) (locs : List Loc) (ls : Array Slot) (cl9 sl9 kc ks : Nat) (hcc : cl9 + kc ≤ 601024) (hss : sl9 + ks ≤ 7293034), wp_L_law_1750 xs LL K l1 l2 l3 l4 l5 m0 kc ks → hp G (xA s.heap.size) m0 H → va_S (xA s.heap.size) s.heap H locs → lv_has ls 9 [(0, .ref b), (1, .ref l1), (2, .ref l2), (3, .ref l3), (4, .ref l4), (5, .int l5)] → W p l e room_1 s m #[Value.ref b] below meth c H locs cl9 sl9 (lw_Z below #[Value.ref b] s) (F0 m 1750 ls []) := by
  obtain ⟨hx, hb, hr, hml, hown, hts, hlocks, hK, hbase, hX⟩ := id C0
  have hbA : ¬ xA s.heap.size b := Nat.not_le.mpr hbl
  intro l1 l2 l3 l4 l5 m0 H locs ls cl9 sl9 kc ks hcc hss h hh hS hl
  unfold wp_L_law_1750 at h
  refine lv_aload_n hx hb dL_law_1750 rfl (lv_at hl 1 rfl) ?_
  refine lv_aload_n hx hb dL_law_1751 rfl (lv_at hl 0 rfl) ?_
  refine lv_iload hx hb dL_law_1752 (lv_at hl 5 rfl) ?_
  refine lv_iconst (v := 1) hx hb dL_law_1754 (by decide) ?_
  refine lv_iadd hx hb dL_law_1755 ?_
  obtain ⟨g614, h⟩ := h
  refine va_sld hx hb hXs hbl hbA hS g614 dL_law_1756 ?_
  refine lv_aload_n hx hb dL_law_1757 rfl (lv_at hl 0 rfl) ?_
  refine lv_iload hx hb dL_law_1758 (lv_at hl 5 rfl) ?_
  refine lv_iconst (v := 2) hx hb dL_law_1760 (by decide) ?_
  refine lv_iadd hx hb dL_law_1761 ?_
  obtain ⟨g615, h⟩ := h
  refine va_sld hx hb hXs hbl hbA hS g615 dL_law_1762 ?_
  refine lv_aload_n hx hb dL_law_1763 rfl (lv_at hl 3 rfl) ?_
  obtain ⟨g616, g617, h⟩ := h
  refine xt_i (vx_runSX (As := [.ref l1, .int (xs (l5 + (1 : Int32)).toNatClampNeg), .int (xs (l5 + (2 : Int32)).toNatClampNeg), .ref l3]) (rest := []) ⟨hx, hb, hml, hown, hts⟩ (mt_L_isKnown l hl9 G (s.heap.size) h) (vx_cwSW 4 hts gL_law_L_isKnown rfl rfl rfl (by decide +kernel) ⟨Nat.le_of_ble_eq_true rfl, Nat.le_of_ble_eq_true rfl⟩) (xp_S hbase hh hK hX hS) rfl rfl hl.1 rfl (lv_room (Nat.le_of_ble_eq_true rfl)) dL_law_1764 ⟨by show _ ≤ 601024; omega, by show _ ≤ 7293034; omega⟩) hS (fun k9 m9 H locs q9 ce h hh hS hc9 hv9 hcl9 => h.elim) (fun r618 m619 H locs h hh hS => ?_)
  obtain ⟨kc620, ekc620⟩ : ∃ z : Nat, z = kc - 1 := ⟨_, rfl⟩
  obtain ⟨ks621, eks621⟩ : ∃ z : Nat, z = ks - 6 := ⟨_, rfl⟩
  replace h := h kc620 ks621 ekc620 eks621
  obtain ⟨cl622, ecl622⟩ : ∃ z : Nat, z = cl9 + 1 := ⟨_, rfl⟩
  obtain ⟨sl623, esl623⟩ : ∃ z : Nat, z = sl9 + 6 := ⟨_, rfl⟩
  refine W_cs ecl622 esl623 ?_
  have hcc : cl622 + kc620 ≤ 601024 := by omega
  have hss : sl623 + ks621 ≤ 7293034 := by omega
  refine lv_istore (lv' := [(6, .int r618), (0, .ref b), (1, .ref l1), (2, .ref l2), (3, .ref l3), (4, .ref l4), (5, .int l5)]) hx hb dL_law_1767 hl (by decide) rfl (fun ls hl => ?_)
  refine lv_aload_n hx hb dL_law_1769 rfl (lv_at hl 3 rfl) ?_
  refine lv_aload_n hx hb dL_law_1770 rfl (lv_at hl 1 rfl) ?_
  refine lv_iload hx hb dL_law_1771 (lv_at hl 6 rfl) ?_
  refine lv_iconst (v := 1) hx hb dL_law_1773 (by decide) ?_
  refine lv_iadd hx hb dL_law_1774 ?_
  obtain ⟨g624, h⟩ := h
  refine va_sld hx hb hXs hbl hbA hS g624 dL_law_1775 ?_
  refine lv_aload_n hx hb dL_law_1776 rfl (lv_at hl 1 rfl) ?_
  refine lv_iload hx hb dL_law_1777 (lv_at hl 6 rfl) ?_
  refine lv_iconst (v := 2) hx hb dL_law_1779 (by decide) ?_
  refine lv_iadd hx hb dL_law_1780 ?_
  obtain ⟨g625, h⟩ := h
  refine va_sld hx hb hXs hbl hbA hS g625 dL_law_1781 ?_
  obtain ⟨g626, h⟩ := h
  refine xc_i (va_runV (As := [.int (xs (l5 + (1 : Int32)).toNatClampNeg), .int (xs (l5 + (2 : Int32)).toNatClampNeg)]) (rest := []) ⟨hx, hb, hml, hown, hts⟩ (mt_X6_isKnown l G (s.heap.size) h) (cwV 2 hts gL_law_X6_isKnown rfl rfl rfl (by decide +kernel) ⟨Nat.le_of_ble_eq_true rfl, Nat.le_of_ble_eq_true rfl⟩) (xp_V hbase hh hK hX hS (ci := 6) g626 (by decide) rfl) rfl rfl hl.1 rfl (lv_room (Nat.le_of_ble_eq_true rfl)) dL_law_1782 ⟨by show _ ≤ 601024; omega, by show _ ≤ 7293034; omega⟩) hS (fun r627 m628 H locs h hh hS => ?_)
  refine lv_istore (lv' := [(7, .int r627), (6, .int r618), (0, .ref b), (1, .ref l1), (2, .ref l2), (3, .ref l3), (4, .ref l4), (5, .int l5)]) hx hb dL_law_1785 hl (by decide) rfl (fun ls hl => ?_)
  refine lv_aload_n hx hb dL_law_1787 rfl (lv_at hl 4 rfl) ?_
  obtain ⟨g629, h⟩ := h
  refine xc_i (va_runV (As := []) (rest := []) ⟨hx, hb, hml, hown, hts⟩ (mt_X6_thrown l G (s.heap.size) h) (cwV 0 hts gL_law_X6_thrown rfl rfl rfl (by decide +kernel) ⟨Nat.le_of_ble_eq_true rfl, Nat.le_of_ble_eq_true rfl⟩) (xp_V hbase hh hK hX hS (ci := 6) g629 (by decide) rfl) rfl rfl hl.1 rfl (lv_room (Nat.le_of_ble_eq_true rfl)) dL_law_1788 ⟨by show _ ≤ 601024; omega, by show _ ≤ 7293034; omega⟩) hS (fun r630 m631 H locs h hh hS => ?_)
  refine lv_iload hx hb dL_law_1791 (lv_at hl 1 rfl) ?_
  refine lv_icmp_eq (tgt := 1798) hx hb dL_law_1793 (by decide) (fun c632 => ?_) (fun c632 => ?_)
  · replace h := h.1 c632
    refine lv_iload hx hb dL_law_1798 (lv_at hl 1 rfl) ?_
    refine lv_if_ne (tgt := 1822) hx hb dL_law_1800 (by decide) (fun c633 => ?_) (fun c633 => ?_)
    · replace h := h.1 c633
      refine lv_goto (tgt := 2255) hx hb dL_law_1822 (by decide) ?_
      obtain ⟨x634, ex634⟩ : ∃ y : Int32, y = l5 + 7 := ⟨_, rfl⟩
      replace h := h x634 ex634
      refine lv_iinc (v := x634) (lv' := [(5, .int x634), (7, .int r627), (6, .int r618), (0, .ref b), (1, .ref l1), (2, .ref l2), (3, .ref l3), (4, .ref l4)]) hx hb dL_law_2255 hl (k := 7) rfl (by rw [ex634]; rfl) (by decide) rfl (fun ls hl => ?_)
      refine lv_goto (tgt := 28) hx hb dL_law_2258 (by decide) ?_
      exact hK9 _ _ _ _ _ _ _ _ _ cl622 sl623 kc620 ks621 hcc hss h hh hS (lv_sub hl [3, 4, 5, 6, 7, 0] rfl)
    · replace h := h.2 c633
      refine lv_aload_n hx hb dL_law_1803 rfl (lv_at hl 5 rfl) ?_
      refine lv_iconst (v := 0) hx hb dL_law_1804 (by decide) ?_
      obtain ⟨g635, h⟩ := h
      obtain ⟨g636, h⟩ := h
      refine xr_lald hx hb hK hh g635 g636 dL_law_1805 ?_
      refine lv_iload hx hb dL_law_1806 (lv_at hl 0 rfl) ?_
      refine lv_if_eq (tgt := 1815) hx hb dL_law_1808 (by decide) (fun c637 => ?_) (fun c637 => ?_)
      · replace h := h.1 c637
        refine lv_lconst (v := 0) hx hb dL_law_1815 (by decide) ?_
        refine W.lcmp hx hb dL_law_1816 ?_
        refine lv_if_eq (tgt := 1822) hx hb dL_law_1817 (by decide) (fun c638 => ?_) (fun c638 => ?_)
        · replace h := h.1 c638
          refine lv_goto (tgt := 2255) hx hb dL_law_1822 (by decide) ?_
          obtain ⟨x639, ex639⟩ : ∃ y : Int32, y = l5 + 7 := ⟨_, rfl⟩
          replace h := h x639 ex639
          refine lv_iinc (v := x639) (lv' := [(5, .int x639), (7, .int r627), (6, .int r618), (0, .ref b), (1, .ref l1), (2, .ref l2), (3, .ref l3), (4, .ref l4)]) hx hb dL_law_2255 hl (k := 7) rfl (by rw [ex639]; rfl) (by decide) rfl (fun ls hl => ?_)
          refine lv_goto (tgt := 28) hx hb dL_law_2258 (by decide) ?_
          exact hK9 _ _ _ _ _ _ _ _ _ cl622 sl623 kc620 ks621 hcc hss h hh hS (lv_sub hl [3, 4, 5, 6, 7, 0] rfl)
        · replace h := h.2 c638
          refine lv_iconst (v := 0) hx hb dL_law_1820 (by decide) ?_
          exact h.elim
      · replace h := h.2 c637
        refine lv_lconst (v := 1) hx hb dL_law_1811 (by decide) ?_
        refine lv_goto (tgt := 1816) hx hb dL_law_1812 (by decide) ?_
        refine W.lcmp hx hb dL_law_1816 ?_
        refine lv_if_eq (tgt := 1822) hx hb dL_law_1817 (by decide) (fun c640 => ?_) (fun c640 => ?_)
        · replace h := h.1 c640
          refine lv_goto (tgt := 2255) hx hb dL_law_1822 (by decide) ?_
          obtain ⟨x641, ex641⟩ : ∃ y : Int32, y = l5 + 7 := ⟨_, rfl⟩
          replace h := h x641 ex641
          refine lv_iinc (v := x641) (lv' := [(5, .int x641), (7, .int r627), (6, .int r618), (0, .ref b), (1, .ref l1), (2, .ref l2), (3, .ref l3), (4, .ref l4)]) hx hb dL_law_2255 hl (k := 7) rfl (by rw [ex641]; rfl) (by decide) rfl (fun ls hl => ?_)
          refine lv_goto (tgt := 28) hx hb dL_law_2258 (by decide) ?_
          exact hK9 _ _ _ _ _ _ _ _ _ cl622 sl623 kc620 ks621 hcc hss h hh hS (lv_sub hl [3, 4, 5, 6, 7, 0] rfl)
        · replace h := h.2 c640
          refine lv_iconst (v := 0) hx hb dL_law_1820 (by decide) ?_
          exact h.elim
  · replace h := h.2 c632
    refine lv_iconst (v := 0) hx hb dL_law_1796 (by decide) ?_
    exact h.elim

set_option maxHeartbeats 4000000 in
set_option maxRecDepth 100000 in
theorem bk_L_law_1825 {b LL : Nat} {xs : Nat → Int32} {p : Program} {l : Launch} {e : Env} {s : State} {m : MethodId} {below : List Frame} {meth : Method} {c : Code} {G : GG} (C0 : BC p s m #[Value.ref b] meth c G s.heap.size RL cL_law 9 ret wsL_law) (hl9 : l.stackTraces = false) (hXs : va_X b LL xs s s.heap) (hbl : b < s.heap.size)  {K : Nat → Nat → Nat → Nat → Int32 → MM → Nat → Nat → Prop} (hK9 : ∀ (l1 : Nat) (l2 : Nat) (l3 : Nat) (l4 : Nat) (l5 : Int32) (m0 : MM) (H : Heap) (locs : List Loc) (ls : Array Slot) (cl9 sl9 kc ks : Nat) (hcc : cl9 + kc ≤ 601024) (hss : sl9 + ks ≤ 7293034), K l1 l2 l3 l4 l5 m0 kc ks → hp G (xA s.heap.size) m0 H → va_S (xA s.heap.size) s.heap H locs → lv_has ls 9 [(0, .ref b), (1, .ref l1), (2, .ref l2), (3, .ref l3), (4, .ref l4), (5, .int l5)] → W p l e room_1 s m #[Value.ref b] below meth c H locs cl9 sl9 (lw_Z below #[Value.ref b] s) (F0 m 28 ls [])) : ∀ (l1 : Nat) (l2 : Nat) (l3 : Nat) (l4 : Nat) (l5 : Int32) (m0 : MM) (H : Heap) (locs : List Loc) (ls : Array Slot) (cl9 sl9 kc ks : Nat) (hcc : cl9 + kc ≤ 601024) (hss : sl9 + ks ≤ 7293034), wp_L_law_1825 xs LL K l1 l2 l3 l4 l5 m0 kc ks → hp G (xA s.heap.size) m0 H → va_S (xA s.heap.size) s.heap H locs → lv_has ls 9 [(0, .ref b), (1, .ref l1), (2, .ref l2), (3, .ref l3), (4, .ref l4), (5, .int l5)] → W p l e room_1 s m #[Value.ref b] below meth c H locs cl9 sl9 (lw_Z below #[Value.ref b] s) (F0 m 1825 ls []) := by
  obtain ⟨hx, hb, hr, hml, hown, hts, hlocks, hK, hbase, hX⟩ := id C0
  have hbA : ¬ xA s.heap.size b := Nat.not_le.mpr hbl
  intro l1 l2 l3 l4 l5 m0 H locs ls cl9 sl9 kc ks hcc hss h hh hS hl
  unfold wp_L_law_1825 at h
  refine lv_aload_n hx hb dL_law_1825 rfl (lv_at hl 1 rfl) ?_
  refine lv_aload_n hx hb dL_law_1826 rfl (lv_at hl 0 rfl) ?_
  refine lv_iload hx hb dL_law_1827 (lv_at hl 5 rfl) ?_
  refine lv_iconst (v := 1) hx hb dL_law_1829 (by decide) ?_
  refine lv_iadd hx hb dL_law_1830 ?_
  obtain ⟨g642, h⟩ := h
  refine va_sld hx hb hXs hbl hbA hS g642 dL_law_1831 ?_
  refine lv_aload_n hx hb dL_law_1832 rfl (lv_at hl 0 rfl) ?_
  refine lv_iload hx hb dL_law_1833 (lv_at hl 5 rfl) ?_
  refine lv_iconst (v := 2) hx hb dL_law_1835 (by decide) ?_
  refine lv_iadd hx hb dL_law_1836 ?_
  obtain ⟨g643, h⟩ := h
  refine va_sld hx hb hXs hbl hbA hS g643 dL_law_1837 ?_
  refine lv_aload_n hx hb dL_law_1838 rfl (lv_at hl 0 rfl) ?_
  refine lv_iload hx hb dL_law_1839 (lv_at hl 5 rfl) ?_
  refine lv_iconst (v := 3) hx hb dL_law_1841 (by decide) ?_
  refine lv_iadd hx hb dL_law_1842 ?_
  obtain ⟨g644, h⟩ := h
  refine va_sld hx hb hXs hbl hbA hS g644 dL_law_1843 ?_
  refine lv_aload_n hx hb dL_law_1844 rfl (lv_at hl 3 rfl) ?_
  obtain ⟨g645, g646, h⟩ := h
  refine xt_i (vx_runSX (As := [.ref l1, .int (xs (l5 + (1 : Int32)).toNatClampNeg), .int (xs (l5 + (2 : Int32)).toNatClampNeg), .int (xs (l5 + (3 : Int32)).toNatClampNeg), .ref l3]) (rest := []) ⟨hx, hb, hml, hown, hts⟩ (mt_L_total l hl9 G (s.heap.size) h) (vx_cwSW 5 hts gL_law_L_total rfl rfl rfl (by decide +kernel) ⟨Nat.le_of_ble_eq_true rfl, Nat.le_of_ble_eq_true rfl⟩) (xp_S hbase hh hK hX hS) rfl rfl hl.1 rfl (lv_room (Nat.le_of_ble_eq_true rfl)) dL_law_1845 ⟨by show _ ≤ 601024; omega, by show _ ≤ 7293034; omega⟩) hS (fun k9 m9 H locs q9 ce h hh hS hc9 hv9 hcl9 => h.elim) (fun r647 m648 H locs h hh hS => ?_)
  obtain ⟨kc649, ekc649⟩ : ∃ z : Nat, z = kc - 3 := ⟨_, rfl⟩
  obtain ⟨ks650, eks650⟩ : ∃ z : Nat, z = ks - 18 := ⟨_, rfl⟩
  replace h := h kc649 ks650 ekc649 eks650
  obtain ⟨cl651, ecl651⟩ : ∃ z : Nat, z = cl9 + 3 := ⟨_, rfl⟩
  obtain ⟨sl652, esl652⟩ : ∃ z : Nat, z = sl9 + 18 := ⟨_, rfl⟩
  refine W_cs ecl651 esl652 ?_
  have hcc : cl651 + kc649 ≤ 601024 := by omega
  have hss : sl652 + ks650 ≤ 7293034 := by omega
  refine lv_istore (lv' := [(6, .int r647), (0, .ref b), (1, .ref l1), (2, .ref l2), (3, .ref l3), (4, .ref l4), (5, .int l5)]) hx hb dL_law_1848 hl (by decide) rfl (fun ls hl => ?_)
  refine lv_aload_n hx hb dL_law_1850 rfl (lv_at hl 3 rfl) ?_
  refine lv_aload_n hx hb dL_law_1851 rfl (lv_at hl 1 rfl) ?_
  refine lv_iload hx hb dL_law_1852 (lv_at hl 6 rfl) ?_
  refine lv_iconst (v := 1) hx hb dL_law_1854 (by decide) ?_
  refine lv_iadd hx hb dL_law_1855 ?_
  obtain ⟨g653, h⟩ := h
  refine va_sld hx hb hXs hbl hbA hS g653 dL_law_1856 ?_
  refine lv_aload_n hx hb dL_law_1857 rfl (lv_at hl 1 rfl) ?_
  refine lv_iload hx hb dL_law_1858 (lv_at hl 6 rfl) ?_
  refine lv_iconst (v := 2) hx hb dL_law_1860 (by decide) ?_
  refine lv_iadd hx hb dL_law_1861 ?_
  obtain ⟨g654, h⟩ := h
  refine va_sld hx hb hXs hbl hbA hS g654 dL_law_1862 ?_
  refine lv_aload_n hx hb dL_law_1863 rfl (lv_at hl 1 rfl) ?_
  refine lv_iload hx hb dL_law_1864 (lv_at hl 6 rfl) ?_
  refine lv_iconst (v := 3) hx hb dL_law_1866 (by decide) ?_
  refine lv_iadd hx hb dL_law_1867 ?_
  obtain ⟨g655, h⟩ := h
  refine va_sld hx hb hXs hbl hbA hS g655 dL_law_1868 ?_
  obtain ⟨g656, h⟩ := h
  refine xc_l (va_runV (As := [.int (xs (l5 + (1 : Int32)).toNatClampNeg), .int (xs (l5 + (2 : Int32)).toNatClampNeg), .int (xs (l5 + (3 : Int32)).toNatClampNeg)]) (rest := []) ⟨hx, hb, hml, hown, hts⟩ (mt_X6_total l G (s.heap.size) h) (cwV 3 hts gL_law_X6_total rfl rfl rfl (by decide +kernel) ⟨Nat.le_of_ble_eq_true rfl, Nat.le_of_ble_eq_true rfl⟩) (xp_V hbase hh hK hX hS (ci := 6) g656 (by decide) rfl) rfl rfl hl.1 rfl (lv_room (Nat.le_of_ble_eq_true rfl)) dL_law_1869 ⟨by show _ ≤ 601024; omega, by show _ ≤ 7293034; omega⟩) hS (fun r657 m658 H locs h hh hS => ?_)
  refine lv_lstore (lv' := [(7, .long r657), (6, .int r647), (0, .ref b), (1, .ref l1), (2, .ref l2), (3, .ref l3), (4, .ref l4), (5, .int l5)]) hx hb dL_law_1872 hl (by decide) rfl (fun ls hl => ?_)
  refine lv_aload_n hx hb dL_law_1874 rfl (lv_at hl 4 rfl) ?_
  obtain ⟨g659, h⟩ := h
  refine xc_i (va_runV (As := []) (rest := []) ⟨hx, hb, hml, hown, hts⟩ (mt_X6_thrown l G (s.heap.size) h) (cwV 0 hts gL_law_X6_thrown rfl rfl rfl (by decide +kernel) ⟨Nat.le_of_ble_eq_true rfl, Nat.le_of_ble_eq_true rfl⟩) (xp_V hbase hh hK hX hS (ci := 6) g659 (by decide) rfl) rfl rfl hl.1 rfl (lv_room (Nat.le_of_ble_eq_true rfl)) dL_law_1875 ⟨by show _ ≤ 601024; omega, by show _ ≤ 7293034; omega⟩) hS (fun r660 m661 H locs h hh hS => ?_)
  refine lv_iload hx hb dL_law_1878 (lv_at hl 1 rfl) ?_
  refine lv_icmp_eq (tgt := 1885) hx hb dL_law_1880 (by decide) (fun c662 => ?_) (fun c662 => ?_)
  · replace h := h.1 c662
    refine lv_iload hx hb dL_law_1885 (lv_at hl 1 rfl) ?_
    refine lv_if_ne (tgt := 1901) hx hb dL_law_1887 (by decide) (fun c663 => ?_) (fun c663 => ?_)
    · replace h := h.1 c663
      refine lv_goto (tgt := 2255) hx hb dL_law_1901 (by decide) ?_
      obtain ⟨x664, ex664⟩ : ∃ y : Int32, y = l5 + 7 := ⟨_, rfl⟩
      replace h := h x664 ex664
      refine lv_iinc (v := x664) (lv' := [(5, .int x664), (7, .long r657), (6, .int r647), (0, .ref b), (1, .ref l1), (2, .ref l2), (3, .ref l3), (4, .ref l4)]) hx hb dL_law_2255 hl (k := 7) rfl (by rw [ex664]; rfl) (by decide) rfl (fun ls hl => ?_)
      refine lv_goto (tgt := 28) hx hb dL_law_2258 (by decide) ?_
      exact hK9 _ _ _ _ _ _ _ _ _ cl651 sl652 kc649 ks650 hcc hss h hh hS (lv_sub hl [3, 4, 5, 6, 7, 0] rfl)
    · replace h := h.2 c663
      refine lv_aload_n hx hb dL_law_1890 rfl (lv_at hl 5 rfl) ?_
      refine lv_iconst (v := 0) hx hb dL_law_1891 (by decide) ?_
      obtain ⟨g665, h⟩ := h
      obtain ⟨g666, h⟩ := h
      refine xr_lald hx hb hK hh g665 g666 dL_law_1892 ?_
      refine lv_lload hx hb dL_law_1893 (lv_at hl 0 rfl) ?_
      refine W.lcmp hx hb dL_law_1895 ?_
      refine lv_if_eq (tgt := 1901) hx hb dL_law_1896 (by decide) (fun c667 => ?_) (fun c667 => ?_)
      · replace h := h.1 c667
        refine lv_goto (tgt := 2255) hx hb dL_law_1901 (by decide) ?_
        obtain ⟨x668, ex668⟩ : ∃ y : Int32, y = l5 + 7 := ⟨_, rfl⟩
        replace h := h x668 ex668
        refine lv_iinc (v := x668) (lv' := [(5, .int x668), (7, .long r657), (6, .int r647), (0, .ref b), (1, .ref l1), (2, .ref l2), (3, .ref l3), (4, .ref l4)]) hx hb dL_law_2255 hl (k := 7) rfl (by rw [ex668]; rfl) (by decide) rfl (fun ls hl => ?_)
        refine lv_goto (tgt := 28) hx hb dL_law_2258 (by decide) ?_
        exact hK9 _ _ _ _ _ _ _ _ _ cl651 sl652 kc649 ks650 hcc hss h hh hS (lv_sub hl [3, 4, 5, 6, 7, 0] rfl)
      · replace h := h.2 c667
        refine lv_iconst (v := 0) hx hb dL_law_1899 (by decide) ?_
        exact h.elim
  · replace h := h.2 c662
    refine lv_iconst (v := 0) hx hb dL_law_1883 (by decide) ?_
    exact h.elim

set_option maxHeartbeats 4000000 in
set_option maxRecDepth 100000 in
theorem bk_L_law_1904 {b LL : Nat} {xs : Nat → Int32} {p : Program} {l : Launch} {e : Env} {s : State} {m : MethodId} {below : List Frame} {meth : Method} {c : Code} {G : GG} (C0 : BC p s m #[Value.ref b] meth c G s.heap.size RL cL_law 9 ret wsL_law) (hl9 : l.stackTraces = false) (hXs : va_X b LL xs s s.heap) (hbl : b < s.heap.size)  {K : Nat → Nat → Nat → Nat → Int32 → MM → Nat → Nat → Prop} (hK9 : ∀ (l1 : Nat) (l2 : Nat) (l3 : Nat) (l4 : Nat) (l5 : Int32) (m0 : MM) (H : Heap) (locs : List Loc) (ls : Array Slot) (cl9 sl9 kc ks : Nat) (hcc : cl9 + kc ≤ 601024) (hss : sl9 + ks ≤ 7293034), K l1 l2 l3 l4 l5 m0 kc ks → hp G (xA s.heap.size) m0 H → va_S (xA s.heap.size) s.heap H locs → lv_has ls 9 [(0, .ref b), (1, .ref l1), (2, .ref l2), (3, .ref l3), (4, .ref l4), (5, .int l5)] → W p l e room_1 s m #[Value.ref b] below meth c H locs cl9 sl9 (lw_Z below #[Value.ref b] s) (F0 m 28 ls [])) : ∀ (l1 : Nat) (l2 : Nat) (l3 : Nat) (l4 : Nat) (l5 : Int32) (m0 : MM) (H : Heap) (locs : List Loc) (ls : Array Slot) (cl9 sl9 kc ks : Nat) (hcc : cl9 + kc ≤ 601024) (hss : sl9 + ks ≤ 7293034), wp_L_law_1904 xs LL K l1 l2 l3 l4 l5 m0 kc ks → hp G (xA s.heap.size) m0 H → va_S (xA s.heap.size) s.heap H locs → lv_has ls 9 [(0, .ref b), (1, .ref l1), (2, .ref l2), (3, .ref l3), (4, .ref l4), (5, .int l5)] → W p l e room_1 s m #[Value.ref b] below meth c H locs cl9 sl9 (lw_Z below #[Value.ref b] s) (F0 m 1904 ls []) := by
  obtain ⟨hx, hb, hr, hml, hown, hts, hlocks, hK, hbase, hX⟩ := id C0
  have hbA : ¬ xA s.heap.size b := Nat.not_le.mpr hbl
  intro l1 l2 l3 l4 l5 m0 H locs ls cl9 sl9 kc ks hcc hss h hh hS hl
  unfold wp_L_law_1904 at h
  refine lv_aload_n hx hb dL_law_1904 rfl (lv_at hl 1 rfl) ?_
  refine lv_aload_n hx hb dL_law_1905 rfl (lv_at hl 0 rfl) ?_
  refine lv_iload hx hb dL_law_1906 (lv_at hl 5 rfl) ?_
  refine lv_iconst (v := 1) hx hb dL_law_1908 (by decide) ?_
  refine lv_iadd hx hb dL_law_1909 ?_
  obtain ⟨g669, h⟩ := h
  refine va_sld hx hb hXs hbl hbA hS g669 dL_law_1910 ?_
  refine lv_aload_n hx hb dL_law_1911 rfl (lv_at hl 0 rfl) ?_
  refine lv_iload hx hb dL_law_1912 (lv_at hl 5 rfl) ?_
  refine lv_iconst (v := 2) hx hb dL_law_1914 (by decide) ?_
  refine lv_iadd hx hb dL_law_1915 ?_
  obtain ⟨g670, h⟩ := h
  refine va_sld hx hb hXs hbl hbA hS g670 dL_law_1916 ?_
  refine lv_aload_n hx hb dL_law_1917 rfl (lv_at hl 0 rfl) ?_
  refine lv_iload hx hb dL_law_1918 (lv_at hl 5 rfl) ?_
  refine lv_iconst (v := 3) hx hb dL_law_1920 (by decide) ?_
  refine lv_iadd hx hb dL_law_1921 ?_
  obtain ⟨g671, h⟩ := h
  refine va_sld hx hb hXs hbl hbA hS g671 dL_law_1922 ?_
  refine lv_aload_n hx hb dL_law_1923 rfl (lv_at hl 3 rfl) ?_
  obtain ⟨g672, g673, h⟩ := h
  refine xt_i (vx_runSX (As := [.ref l1, .int (xs (l5 + (1 : Int32)).toNatClampNeg), .int (xs (l5 + (2 : Int32)).toNatClampNeg), .int (xs (l5 + (3 : Int32)).toNatClampNeg), .ref l3]) (rest := []) ⟨hx, hb, hml, hown, hts⟩ (mt_L_totalByPoints l hl9 G (s.heap.size) h) (vx_cwSW 5 hts gL_law_L_totalByPoints rfl rfl rfl (by decide +kernel) ⟨Nat.le_of_ble_eq_true rfl, Nat.le_of_ble_eq_true rfl⟩) (xp_S hbase hh hK hX hS) rfl rfl hl.1 rfl (lv_room (Nat.le_of_ble_eq_true rfl)) dL_law_1924 ⟨by show _ ≤ 601024; omega, by show _ ≤ 7293034; omega⟩) hS (fun k9 m9 H locs q9 ce h hh hS hc9 hv9 hcl9 => h.elim) (fun r674 m675 H locs h hh hS => ?_)
  obtain ⟨kc676, ekc676⟩ : ∃ z : Nat, z = kc - 3 := ⟨_, rfl⟩
  obtain ⟨ks677, eks677⟩ : ∃ z : Nat, z = ks - 18 := ⟨_, rfl⟩
  replace h := h kc676 ks677 ekc676 eks677
  obtain ⟨cl678, ecl678⟩ : ∃ z : Nat, z = cl9 + 3 := ⟨_, rfl⟩
  obtain ⟨sl679, esl679⟩ : ∃ z : Nat, z = sl9 + 18 := ⟨_, rfl⟩
  refine W_cs ecl678 esl679 ?_
  have hcc : cl678 + kc676 ≤ 601024 := by omega
  have hss : sl679 + ks677 ≤ 7293034 := by omega
  refine lv_istore (lv' := [(6, .int r674), (0, .ref b), (1, .ref l1), (2, .ref l2), (3, .ref l3), (4, .ref l4), (5, .int l5)]) hx hb dL_law_1927 hl (by decide) rfl (fun ls hl => ?_)
  refine lv_aload_n hx hb dL_law_1929 rfl (lv_at hl 3 rfl) ?_
  refine lv_aload_n hx hb dL_law_1930 rfl (lv_at hl 1 rfl) ?_
  refine lv_iload hx hb dL_law_1931 (lv_at hl 6 rfl) ?_
  refine lv_iconst (v := 1) hx hb dL_law_1933 (by decide) ?_
  refine lv_iadd hx hb dL_law_1934 ?_
  obtain ⟨g680, h⟩ := h
  refine va_sld hx hb hXs hbl hbA hS g680 dL_law_1935 ?_
  refine lv_aload_n hx hb dL_law_1936 rfl (lv_at hl 1 rfl) ?_
  refine lv_iload hx hb dL_law_1937 (lv_at hl 6 rfl) ?_
  refine lv_iconst (v := 2) hx hb dL_law_1939 (by decide) ?_
  refine lv_iadd hx hb dL_law_1940 ?_
  obtain ⟨g681, h⟩ := h
  refine va_sld hx hb hXs hbl hbA hS g681 dL_law_1941 ?_
  refine lv_aload_n hx hb dL_law_1942 rfl (lv_at hl 1 rfl) ?_
  refine lv_iload hx hb dL_law_1943 (lv_at hl 6 rfl) ?_
  refine lv_iconst (v := 3) hx hb dL_law_1945 (by decide) ?_
  refine lv_iadd hx hb dL_law_1946 ?_
  obtain ⟨g682, h⟩ := h
  refine va_sld hx hb hXs hbl hbA hS g682 dL_law_1947 ?_
  obtain ⟨g683, h⟩ := h
  refine xc_l (va_runV (As := [.int (xs (l5 + (1 : Int32)).toNatClampNeg), .int (xs (l5 + (2 : Int32)).toNatClampNeg), .int (xs (l5 + (3 : Int32)).toNatClampNeg)]) (rest := []) ⟨hx, hb, hml, hown, hts⟩ (mt_X6_totalByPoints l G (s.heap.size) h) (cwV 3 hts gL_law_X6_totalByPoints rfl rfl rfl (by decide +kernel) ⟨Nat.le_of_ble_eq_true rfl, Nat.le_of_ble_eq_true rfl⟩) (xp_V hbase hh hK hX hS (ci := 6) g683 (by decide) rfl) rfl rfl hl.1 rfl (lv_room (Nat.le_of_ble_eq_true rfl)) dL_law_1948 ⟨by show _ ≤ 601024; omega, by show _ ≤ 7293034; omega⟩) hS (fun r684 m685 H locs h hh hS => ?_)
  refine lv_lstore (lv' := [(7, .long r684), (6, .int r674), (0, .ref b), (1, .ref l1), (2, .ref l2), (3, .ref l3), (4, .ref l4), (5, .int l5)]) hx hb dL_law_1951 hl (by decide) rfl (fun ls hl => ?_)
  refine lv_aload_n hx hb dL_law_1953 rfl (lv_at hl 4 rfl) ?_
  obtain ⟨g686, h⟩ := h
  refine xc_i (va_runV (As := []) (rest := []) ⟨hx, hb, hml, hown, hts⟩ (mt_X6_thrown l G (s.heap.size) h) (cwV 0 hts gL_law_X6_thrown rfl rfl rfl (by decide +kernel) ⟨Nat.le_of_ble_eq_true rfl, Nat.le_of_ble_eq_true rfl⟩) (xp_V hbase hh hK hX hS (ci := 6) g686 (by decide) rfl) rfl rfl hl.1 rfl (lv_room (Nat.le_of_ble_eq_true rfl)) dL_law_1954 ⟨by show _ ≤ 601024; omega, by show _ ≤ 7293034; omega⟩) hS (fun r687 m688 H locs h hh hS => ?_)
  refine lv_iload hx hb dL_law_1957 (lv_at hl 1 rfl) ?_
  refine lv_icmp_eq (tgt := 1964) hx hb dL_law_1959 (by decide) (fun c689 => ?_) (fun c689 => ?_)
  · replace h := h.1 c689
    refine lv_iload hx hb dL_law_1964 (lv_at hl 1 rfl) ?_
    refine lv_if_ne (tgt := 1980) hx hb dL_law_1966 (by decide) (fun c690 => ?_) (fun c690 => ?_)
    · replace h := h.1 c690
      refine lv_goto (tgt := 2255) hx hb dL_law_1980 (by decide) ?_
      obtain ⟨x691, ex691⟩ : ∃ y : Int32, y = l5 + 7 := ⟨_, rfl⟩
      replace h := h x691 ex691
      refine lv_iinc (v := x691) (lv' := [(5, .int x691), (7, .long r684), (6, .int r674), (0, .ref b), (1, .ref l1), (2, .ref l2), (3, .ref l3), (4, .ref l4)]) hx hb dL_law_2255 hl (k := 7) rfl (by rw [ex691]; rfl) (by decide) rfl (fun ls hl => ?_)
      refine lv_goto (tgt := 28) hx hb dL_law_2258 (by decide) ?_
      exact hK9 _ _ _ _ _ _ _ _ _ cl678 sl679 kc676 ks677 hcc hss h hh hS (lv_sub hl [3, 4, 5, 6, 7, 0] rfl)
    · replace h := h.2 c690
      refine lv_aload_n hx hb dL_law_1969 rfl (lv_at hl 5 rfl) ?_
      refine lv_iconst (v := 0) hx hb dL_law_1970 (by decide) ?_
      obtain ⟨g692, h⟩ := h
      obtain ⟨g693, h⟩ := h
      refine xr_lald hx hb hK hh g692 g693 dL_law_1971 ?_
      refine lv_lload hx hb dL_law_1972 (lv_at hl 0 rfl) ?_
      refine W.lcmp hx hb dL_law_1974 ?_
      refine lv_if_eq (tgt := 1980) hx hb dL_law_1975 (by decide) (fun c694 => ?_) (fun c694 => ?_)
      · replace h := h.1 c694
        refine lv_goto (tgt := 2255) hx hb dL_law_1980 (by decide) ?_
        obtain ⟨x695, ex695⟩ : ∃ y : Int32, y = l5 + 7 := ⟨_, rfl⟩
        replace h := h x695 ex695
        refine lv_iinc (v := x695) (lv' := [(5, .int x695), (7, .long r684), (6, .int r674), (0, .ref b), (1, .ref l1), (2, .ref l2), (3, .ref l3), (4, .ref l4)]) hx hb dL_law_2255 hl (k := 7) rfl (by rw [ex695]; rfl) (by decide) rfl (fun ls hl => ?_)
        refine lv_goto (tgt := 28) hx hb dL_law_2258 (by decide) ?_
        exact hK9 _ _ _ _ _ _ _ _ _ cl678 sl679 kc676 ks677 hcc hss h hh hS (lv_sub hl [3, 4, 5, 6, 7, 0] rfl)
      · replace h := h.2 c694
        refine lv_iconst (v := 0) hx hb dL_law_1978 (by decide) ?_
        exact h.elim
  · replace h := h.2 c689
    refine lv_iconst (v := 0) hx hb dL_law_1962 (by decide) ?_
    exact h.elim

set_option maxHeartbeats 4000000 in
set_option maxRecDepth 100000 in
theorem bk_L_law_1983 {b LL : Nat} {xs : Nat → Int32} {p : Program} {l : Launch} {e : Env} {s : State} {m : MethodId} {below : List Frame} {meth : Method} {c : Code} {G : GG} (C0 : BC p s m #[Value.ref b] meth c G s.heap.size RL cL_law 9 ret wsL_law) (hl9 : l.stackTraces = false) (hXs : va_X b LL xs s s.heap) (hbl : b < s.heap.size)  {K : Nat → Nat → Nat → Nat → Int32 → MM → Nat → Nat → Prop} (hK9 : ∀ (l1 : Nat) (l2 : Nat) (l3 : Nat) (l4 : Nat) (l5 : Int32) (m0 : MM) (H : Heap) (locs : List Loc) (ls : Array Slot) (cl9 sl9 kc ks : Nat) (hcc : cl9 + kc ≤ 601024) (hss : sl9 + ks ≤ 7293034), K l1 l2 l3 l4 l5 m0 kc ks → hp G (xA s.heap.size) m0 H → va_S (xA s.heap.size) s.heap H locs → lv_has ls 9 [(0, .ref b), (1, .ref l1), (2, .ref l2), (3, .ref l3), (4, .ref l4), (5, .int l5)] → W p l e room_1 s m #[Value.ref b] below meth c H locs cl9 sl9 (lw_Z below #[Value.ref b] s) (F0 m 28 ls [])) : ∀ (l1 : Nat) (l2 : Nat) (l3 : Nat) (l4 : Nat) (l5 : Int32) (m0 : MM) (H : Heap) (locs : List Loc) (ls : Array Slot) (cl9 sl9 kc ks : Nat) (hcc : cl9 + kc ≤ 601024) (hss : sl9 + ks ≤ 7293034), wp_L_law_1983 xs LL K l1 l2 l3 l4 l5 m0 kc ks → hp G (xA s.heap.size) m0 H → va_S (xA s.heap.size) s.heap H locs → lv_has ls 9 [(0, .ref b), (1, .ref l1), (2, .ref l2), (3, .ref l3), (4, .ref l4), (5, .int l5)] → W p l e room_1 s m #[Value.ref b] below meth c H locs cl9 sl9 (lw_Z below #[Value.ref b] s) (F0 m 1983 ls []) := by
  obtain ⟨hx, hb, hr, hml, hown, hts, hlocks, hK, hbase, hX⟩ := id C0
  have hbA : ¬ xA s.heap.size b := Nat.not_le.mpr hbl
  intro l1 l2 l3 l4 l5 m0 H locs ls cl9 sl9 kc ks hcc hss h hh hS hl
  unfold wp_L_law_1983 at h
  refine lv_aload_n hx hb dL_law_1983 rfl (lv_at hl 1 rfl) ?_
  refine lv_aload_n hx hb dL_law_1984 rfl (lv_at hl 0 rfl) ?_
  refine lv_iload hx hb dL_law_1985 (lv_at hl 5 rfl) ?_
  refine lv_iconst (v := 1) hx hb dL_law_1987 (by decide) ?_
  refine lv_iadd hx hb dL_law_1988 ?_
  obtain ⟨g696, h⟩ := h
  refine va_sld hx hb hXs hbl hbA hS g696 dL_law_1989 ?_
  refine lv_aload_n hx hb dL_law_1990 rfl (lv_at hl 0 rfl) ?_
  refine lv_iload hx hb dL_law_1991 (lv_at hl 5 rfl) ?_
  refine lv_iconst (v := 2) hx hb dL_law_1993 (by decide) ?_
  refine lv_iadd hx hb dL_law_1994 ?_
  obtain ⟨g697, h⟩ := h
  refine va_sld hx hb hXs hbl hbA hS g697 dL_law_1995 ?_
  refine lv_aload_n hx hb dL_law_1996 rfl (lv_at hl 0 rfl) ?_
  refine lv_iload hx hb dL_law_1997 (lv_at hl 5 rfl) ?_
  refine lv_iconst (v := 3) hx hb dL_law_1999 (by decide) ?_
  refine lv_iadd hx hb dL_law_2000 ?_
  obtain ⟨g698, h⟩ := h
  refine va_sld hx hb hXs hbl hbA hS g698 dL_law_2001 ?_
  refine lv_aload_n hx hb dL_law_2002 rfl (lv_at hl 3 rfl) ?_
  obtain ⟨g699, g700, h⟩ := h
  refine xt_i (vx_runSX (As := [.ref l1, .int (xs (l5 + (1 : Int32)).toNatClampNeg), .int (xs (l5 + (2 : Int32)).toNatClampNeg), .int (xs (l5 + (3 : Int32)).toNatClampNeg), .ref l3]) (rest := []) ⟨hx, hb, hml, hown, hts⟩ (mt_L_increase l hl9 G (s.heap.size) h) (vx_cwSW 5 hts gL_law_L_increase rfl rfl rfl (by decide +kernel) ⟨Nat.le_of_ble_eq_true rfl, Nat.le_of_ble_eq_true rfl⟩) (xp_S hbase hh hK hX hS) rfl rfl hl.1 rfl (lv_room (Nat.le_of_ble_eq_true rfl)) dL_law_2003 ⟨by show _ ≤ 601024; omega, by show _ ≤ 7293034; omega⟩) hS (fun k9 m9 H locs q9 ce h hh hS hc9 hv9 hcl9 => h.elim) (fun r701 m702 H locs h hh hS => ?_)
  obtain ⟨kc703, ekc703⟩ : ∃ z : Nat, z = kc - 3 := ⟨_, rfl⟩
  obtain ⟨ks704, eks704⟩ : ∃ z : Nat, z = ks - 18 := ⟨_, rfl⟩
  replace h := h kc703 ks704 ekc703 eks704
  obtain ⟨cl705, ecl705⟩ : ∃ z : Nat, z = cl9 + 3 := ⟨_, rfl⟩
  obtain ⟨sl706, esl706⟩ : ∃ z : Nat, z = sl9 + 18 := ⟨_, rfl⟩
  refine W_cs ecl705 esl706 ?_
  have hcc : cl705 + kc703 ≤ 601024 := by omega
  have hss : sl706 + ks704 ≤ 7293034 := by omega
  refine lv_istore (lv' := [(6, .int r701), (0, .ref b), (1, .ref l1), (2, .ref l2), (3, .ref l3), (4, .ref l4), (5, .int l5)]) hx hb dL_law_2006 hl (by decide) rfl (fun ls hl => ?_)
  refine lv_aload_n hx hb dL_law_2008 rfl (lv_at hl 3 rfl) ?_
  refine lv_aload_n hx hb dL_law_2009 rfl (lv_at hl 1 rfl) ?_
  refine lv_iload hx hb dL_law_2010 (lv_at hl 6 rfl) ?_
  refine lv_iconst (v := 1) hx hb dL_law_2012 (by decide) ?_
  refine lv_iadd hx hb dL_law_2013 ?_
  obtain ⟨g707, h⟩ := h
  refine va_sld hx hb hXs hbl hbA hS g707 dL_law_2014 ?_
  refine lv_aload_n hx hb dL_law_2015 rfl (lv_at hl 1 rfl) ?_
  refine lv_iload hx hb dL_law_2016 (lv_at hl 6 rfl) ?_
  refine lv_iconst (v := 2) hx hb dL_law_2018 (by decide) ?_
  refine lv_iadd hx hb dL_law_2019 ?_
  obtain ⟨g708, h⟩ := h
  refine va_sld hx hb hXs hbl hbA hS g708 dL_law_2020 ?_
  refine lv_aload_n hx hb dL_law_2021 rfl (lv_at hl 1 rfl) ?_
  refine lv_iload hx hb dL_law_2022 (lv_at hl 6 rfl) ?_
  refine lv_iconst (v := 3) hx hb dL_law_2024 (by decide) ?_
  refine lv_iadd hx hb dL_law_2025 ?_
  obtain ⟨g709, h⟩ := h
  refine va_sld hx hb hXs hbl hbA hS g709 dL_law_2026 ?_
  obtain ⟨g710, h⟩ := h
  refine xc_l (va_runV (As := [.int (xs (l5 + (1 : Int32)).toNatClampNeg), .int (xs (l5 + (2 : Int32)).toNatClampNeg), .int (xs (l5 + (3 : Int32)).toNatClampNeg)]) (rest := []) ⟨hx, hb, hml, hown, hts⟩ (mt_X6_increase l G (s.heap.size) h) (cwV 3 hts gL_law_X6_increase rfl rfl rfl (by decide +kernel) ⟨Nat.le_of_ble_eq_true rfl, Nat.le_of_ble_eq_true rfl⟩) (xp_V hbase hh hK hX hS (ci := 6) g710 (by decide) rfl) rfl rfl hl.1 rfl (lv_room (Nat.le_of_ble_eq_true rfl)) dL_law_2027 ⟨by show _ ≤ 601024; omega, by show _ ≤ 7293034; omega⟩) hS (fun r711 m712 H locs h hh hS => ?_)
  refine lv_lstore (lv' := [(7, .long r711), (6, .int r701), (0, .ref b), (1, .ref l1), (2, .ref l2), (3, .ref l3), (4, .ref l4), (5, .int l5)]) hx hb dL_law_2030 hl (by decide) rfl (fun ls hl => ?_)
  refine lv_aload_n hx hb dL_law_2032 rfl (lv_at hl 4 rfl) ?_
  obtain ⟨g713, h⟩ := h
  refine xc_i (va_runV (As := []) (rest := []) ⟨hx, hb, hml, hown, hts⟩ (mt_X6_thrown l G (s.heap.size) h) (cwV 0 hts gL_law_X6_thrown rfl rfl rfl (by decide +kernel) ⟨Nat.le_of_ble_eq_true rfl, Nat.le_of_ble_eq_true rfl⟩) (xp_V hbase hh hK hX hS (ci := 6) g713 (by decide) rfl) rfl rfl hl.1 rfl (lv_room (Nat.le_of_ble_eq_true rfl)) dL_law_2033 ⟨by show _ ≤ 601024; omega, by show _ ≤ 7293034; omega⟩) hS (fun r714 m715 H locs h hh hS => ?_)
  refine lv_iload hx hb dL_law_2036 (lv_at hl 1 rfl) ?_
  refine lv_icmp_eq (tgt := 2043) hx hb dL_law_2038 (by decide) (fun c716 => ?_) (fun c716 => ?_)
  · replace h := h.1 c716
    refine lv_iload hx hb dL_law_2043 (lv_at hl 1 rfl) ?_
    refine lv_if_ne (tgt := 2059) hx hb dL_law_2045 (by decide) (fun c717 => ?_) (fun c717 => ?_)
    · replace h := h.1 c717
      refine lv_goto (tgt := 2255) hx hb dL_law_2059 (by decide) ?_
      obtain ⟨x718, ex718⟩ : ∃ y : Int32, y = l5 + 7 := ⟨_, rfl⟩
      replace h := h x718 ex718
      refine lv_iinc (v := x718) (lv' := [(5, .int x718), (7, .long r711), (6, .int r701), (0, .ref b), (1, .ref l1), (2, .ref l2), (3, .ref l3), (4, .ref l4)]) hx hb dL_law_2255 hl (k := 7) rfl (by rw [ex718]; rfl) (by decide) rfl (fun ls hl => ?_)
      refine lv_goto (tgt := 28) hx hb dL_law_2258 (by decide) ?_
      exact hK9 _ _ _ _ _ _ _ _ _ cl705 sl706 kc703 ks704 hcc hss h hh hS (lv_sub hl [3, 4, 5, 6, 7, 0] rfl)
    · replace h := h.2 c717
      refine lv_aload_n hx hb dL_law_2048 rfl (lv_at hl 5 rfl) ?_
      refine lv_iconst (v := 0) hx hb dL_law_2049 (by decide) ?_
      obtain ⟨g719, h⟩ := h
      obtain ⟨g720, h⟩ := h
      refine xr_lald hx hb hK hh g719 g720 dL_law_2050 ?_
      refine lv_lload hx hb dL_law_2051 (lv_at hl 0 rfl) ?_
      refine W.lcmp hx hb dL_law_2053 ?_
      refine lv_if_eq (tgt := 2059) hx hb dL_law_2054 (by decide) (fun c721 => ?_) (fun c721 => ?_)
      · replace h := h.1 c721
        refine lv_goto (tgt := 2255) hx hb dL_law_2059 (by decide) ?_
        obtain ⟨x722, ex722⟩ : ∃ y : Int32, y = l5 + 7 := ⟨_, rfl⟩
        replace h := h x722 ex722
        refine lv_iinc (v := x722) (lv' := [(5, .int x722), (7, .long r711), (6, .int r701), (0, .ref b), (1, .ref l1), (2, .ref l2), (3, .ref l3), (4, .ref l4)]) hx hb dL_law_2255 hl (k := 7) rfl (by rw [ex722]; rfl) (by decide) rfl (fun ls hl => ?_)
        refine lv_goto (tgt := 28) hx hb dL_law_2258 (by decide) ?_
        exact hK9 _ _ _ _ _ _ _ _ _ cl705 sl706 kc703 ks704 hcc hss h hh hS (lv_sub hl [3, 4, 5, 6, 7, 0] rfl)
      · replace h := h.2 c721
        refine lv_iconst (v := 0) hx hb dL_law_2057 (by decide) ?_
        exact h.elim
  · replace h := h.2 c716
    refine lv_iconst (v := 0) hx hb dL_law_2041 (by decide) ?_
    exact h.elim

set_option maxHeartbeats 4000000 in
set_option maxRecDepth 100000 in
theorem bk_L_law_2062 {b LL : Nat} {xs : Nat → Int32} {p : Program} {l : Launch} {e : Env} {s : State} {m : MethodId} {below : List Frame} {meth : Method} {c : Code} {G : GG} (C0 : BC p s m #[Value.ref b] meth c G s.heap.size RL cL_law 9 ret wsL_law) (hl9 : l.stackTraces = false) (hXs : va_X b LL xs s s.heap) (hbl : b < s.heap.size)  {K : Nat → Nat → Nat → Nat → Int32 → MM → Nat → Nat → Prop} (hK9 : ∀ (l1 : Nat) (l2 : Nat) (l3 : Nat) (l4 : Nat) (l5 : Int32) (m0 : MM) (H : Heap) (locs : List Loc) (ls : Array Slot) (cl9 sl9 kc ks : Nat) (hcc : cl9 + kc ≤ 601024) (hss : sl9 + ks ≤ 7293034), K l1 l2 l3 l4 l5 m0 kc ks → hp G (xA s.heap.size) m0 H → va_S (xA s.heap.size) s.heap H locs → lv_has ls 9 [(0, .ref b), (1, .ref l1), (2, .ref l2), (3, .ref l3), (4, .ref l4), (5, .int l5)] → W p l e room_1 s m #[Value.ref b] below meth c H locs cl9 sl9 (lw_Z below #[Value.ref b] s) (F0 m 28 ls [])) : ∀ (l1 : Nat) (l2 : Nat) (l3 : Nat) (l4 : Nat) (l5 : Int32) (m0 : MM) (H : Heap) (locs : List Loc) (ls : Array Slot) (cl9 sl9 kc ks : Nat) (hcc : cl9 + kc ≤ 601024) (hss : sl9 + ks ≤ 7293034), wp_L_law_2062 xs LL K l1 l2 l3 l4 l5 m0 kc ks → hp G (xA s.heap.size) m0 H → va_S (xA s.heap.size) s.heap H locs → lv_has ls 9 [(0, .ref b), (1, .ref l1), (2, .ref l2), (3, .ref l3), (4, .ref l4), (5, .int l5)] → W p l e room_1 s m #[Value.ref b] below meth c H locs cl9 sl9 (lw_Z below #[Value.ref b] s) (F0 m 2062 ls []) := by
  obtain ⟨hx, hb, hr, hml, hown, hts, hlocks, hK, hbase, hX⟩ := id C0
  have hbA : ¬ xA s.heap.size b := Nat.not_le.mpr hbl
  intro l1 l2 l3 l4 l5 m0 H locs ls cl9 sl9 kc ks hcc hss h hh hS hl
  unfold wp_L_law_2062 at h
  refine lv_aload_n hx hb dL_law_2062 rfl (lv_at hl 1 rfl) ?_
  refine lv_aload_n hx hb dL_law_2063 rfl (lv_at hl 0 rfl) ?_
  refine lv_iload hx hb dL_law_2064 (lv_at hl 5 rfl) ?_
  refine lv_iconst (v := 1) hx hb dL_law_2066 (by decide) ?_
  refine lv_iadd hx hb dL_law_2067 ?_
  obtain ⟨g723, h⟩ := h
  refine va_sld hx hb hXs hbl hbA hS g723 dL_law_2068 ?_
  refine lv_aload_n hx hb dL_law_2069 rfl (lv_at hl 0 rfl) ?_
  refine lv_iload hx hb dL_law_2070 (lv_at hl 5 rfl) ?_
  refine lv_iconst (v := 2) hx hb dL_law_2072 (by decide) ?_
  refine lv_iadd hx hb dL_law_2073 ?_
  obtain ⟨g724, h⟩ := h
  refine va_sld hx hb hXs hbl hbA hS g724 dL_law_2074 ?_
  refine lv_aload_n hx hb dL_law_2075 rfl (lv_at hl 0 rfl) ?_
  refine lv_iload hx hb dL_law_2076 (lv_at hl 5 rfl) ?_
  refine lv_iconst (v := 3) hx hb dL_law_2078 (by decide) ?_
  refine lv_iadd hx hb dL_law_2079 ?_
  obtain ⟨g725, h⟩ := h
  refine va_sld hx hb hXs hbl hbA hS g725 dL_law_2080 ?_
  refine lv_aload hx hb dL_law_2081 (lv_at hl 4 rfl) ?_
  obtain ⟨g726, g727, h⟩ := h
  refine xt_i (vx_runSX (As := [.ref l1, .int (xs (l5 + (1 : Int32)).toNatClampNeg), .int (xs (l5 + (2 : Int32)).toNatClampNeg), .int (xs (l5 + (3 : Int32)).toNatClampNeg), .ref l4]) (rest := []) ⟨hx, hb, hml, hown, hts⟩ (mt_L_ratePerHour l hl9 G (s.heap.size) h) (vx_cwSW 5 hts gL_law_L_ratePerHour rfl rfl rfl (by decide +kernel) ⟨Nat.le_of_ble_eq_true rfl, Nat.le_of_ble_eq_true rfl⟩) (xp_S hbase hh hK hX hS) rfl rfl hl.1 rfl (lv_room (Nat.le_of_ble_eq_true rfl)) dL_law_2083 ⟨by show _ ≤ 601024; omega, by show _ ≤ 7293034; omega⟩) hS (fun k9 m9 H locs q9 ce h hh hS hc9 hv9 hcl9 => h.elim) (fun r728 m729 H locs h hh hS => ?_)
  obtain ⟨kc730, ekc730⟩ : ∃ z : Nat, z = kc - 3 := ⟨_, rfl⟩
  obtain ⟨ks731, eks731⟩ : ∃ z : Nat, z = ks - 18 := ⟨_, rfl⟩
  replace h := h kc730 ks731 ekc730 eks731
  obtain ⟨cl732, ecl732⟩ : ∃ z : Nat, z = cl9 + 3 := ⟨_, rfl⟩
  obtain ⟨sl733, esl733⟩ : ∃ z : Nat, z = sl9 + 18 := ⟨_, rfl⟩
  refine W_cs ecl732 esl733 ?_
  have hcc : cl732 + kc730 ≤ 601024 := by omega
  have hss : sl733 + ks731 ≤ 7293034 := by omega
  refine lv_istore (lv' := [(6, .int r728), (0, .ref b), (1, .ref l1), (2, .ref l2), (3, .ref l3), (4, .ref l4), (5, .int l5)]) hx hb dL_law_2086 hl (by decide) rfl (fun ls hl => ?_)
  refine lv_aload_n hx hb dL_law_2088 rfl (lv_at hl 3 rfl) ?_
  refine lv_aload_n hx hb dL_law_2089 rfl (lv_at hl 1 rfl) ?_
  refine lv_iload hx hb dL_law_2090 (lv_at hl 6 rfl) ?_
  refine lv_iconst (v := 1) hx hb dL_law_2092 (by decide) ?_
  refine lv_iadd hx hb dL_law_2093 ?_
  obtain ⟨g734, h⟩ := h
  refine va_sld hx hb hXs hbl hbA hS g734 dL_law_2094 ?_
  refine lv_aload_n hx hb dL_law_2095 rfl (lv_at hl 1 rfl) ?_
  refine lv_iload hx hb dL_law_2096 (lv_at hl 6 rfl) ?_
  refine lv_iconst (v := 2) hx hb dL_law_2098 (by decide) ?_
  refine lv_iadd hx hb dL_law_2099 ?_
  obtain ⟨g735, h⟩ := h
  refine va_sld hx hb hXs hbl hbA hS g735 dL_law_2100 ?_
  refine lv_aload_n hx hb dL_law_2101 rfl (lv_at hl 1 rfl) ?_
  refine lv_iload hx hb dL_law_2102 (lv_at hl 6 rfl) ?_
  refine lv_iconst (v := 3) hx hb dL_law_2104 (by decide) ?_
  refine lv_iadd hx hb dL_law_2105 ?_
  obtain ⟨g736, h⟩ := h
  refine va_sld hx hb hXs hbl hbA hS g736 dL_law_2106 ?_
  obtain ⟨g737, h⟩ := h
  refine xc_d (va_runV (As := [.int (xs (l5 + (1 : Int32)).toNatClampNeg), .int (xs (l5 + (2 : Int32)).toNatClampNeg), .int (xs (l5 + (3 : Int32)).toNatClampNeg)]) (rest := []) ⟨hx, hb, hml, hown, hts⟩ (mt_X6_ratePerHour l G (s.heap.size) h) (cwV 3 hts gL_law_X6_ratePerHour rfl rfl rfl (by decide +kernel) ⟨Nat.le_of_ble_eq_true rfl, Nat.le_of_ble_eq_true rfl⟩) (xp_V hbase hh hK hX hS (ci := 6) g737 (by decide) rfl) rfl rfl hl.1 rfl (lv_room (Nat.le_of_ble_eq_true rfl)) dL_law_2107 ⟨by show _ ≤ 601024; omega, by show _ ≤ 7293034; omega⟩) hS (fun r738 m739 H locs h hh hS => ?_)
  refine lv_dstore (lv' := [(7, .double r738), (6, .int r728), (0, .ref b), (1, .ref l1), (2, .ref l2), (3, .ref l3), (4, .ref l4), (5, .int l5)]) hx hb dL_law_2110 hl (by decide) rfl (fun ls hl => ?_)
  refine lv_aload_n hx hb dL_law_2112 rfl (lv_at hl 4 rfl) ?_
  obtain ⟨g740, h⟩ := h
  refine xc_i (va_runV (As := []) (rest := []) ⟨hx, hb, hml, hown, hts⟩ (mt_X6_thrown l G (s.heap.size) h) (cwV 0 hts gL_law_X6_thrown rfl rfl rfl (by decide +kernel) ⟨Nat.le_of_ble_eq_true rfl, Nat.le_of_ble_eq_true rfl⟩) (xp_V hbase hh hK hX hS (ci := 6) g740 (by decide) rfl) rfl rfl hl.1 rfl (lv_room (Nat.le_of_ble_eq_true rfl)) dL_law_2113 ⟨by show _ ≤ 601024; omega, by show _ ≤ 7293034; omega⟩) hS (fun r741 m742 H locs h hh hS => ?_)
  refine lv_iload hx hb dL_law_2116 (lv_at hl 1 rfl) ?_
  refine lv_icmp_eq (tgt := 2123) hx hb dL_law_2118 (by decide) (fun c743 => ?_) (fun c743 => ?_)
  · replace h := h.1 c743
    refine lv_iload hx hb dL_law_2123 (lv_at hl 1 rfl) ?_
    refine lv_if_ne (tgt := 2160) hx hb dL_law_2125 (by decide) (fun c744 => ?_) (fun c744 => ?_)
    · replace h := h.1 c744
      refine lv_goto (tgt := 2255) hx hb dL_law_2160 (by decide) ?_
      obtain ⟨x745, ex745⟩ : ∃ y : Int32, y = l5 + 7 := ⟨_, rfl⟩
      replace h := h x745 ex745
      refine lv_iinc (v := x745) (lv' := [(5, .int x745), (7, .double r738), (6, .int r728), (0, .ref b), (1, .ref l1), (2, .ref l2), (3, .ref l3), (4, .ref l4)]) hx hb dL_law_2255 hl (k := 7) rfl (by rw [ex745]; rfl) (by decide) rfl (fun ls hl => ?_)
      refine lv_goto (tgt := 28) hx hb dL_law_2258 (by decide) ?_
      exact hK9 _ _ _ _ _ _ _ _ _ cl732 sl733 kc730 ks731 hcc hss h hh hS (lv_sub hl [3, 4, 5, 6, 7, 0] rfl)
    · replace h := h.2 c744
      refine lv_aload hx hb dL_law_2128 (lv_at hl 6 rfl) ?_
      refine lv_iconst (v := 0) hx hb dL_law_2130 (by decide) ?_
      obtain ⟨g746, h⟩ := h
      obtain ⟨g747, h⟩ := h
      refine xr_dald hx hb hK hh g746 g747 dL_law_2131 ?_
      refine lv_dload hx hb dL_law_2132 (lv_at hl 0 rfl) ?_
      refine lv_dcmp hx hb dL_law_2134 ?_
      refine lv_if_eq (tgt := 2160) hx hb dL_law_2135 (by decide) (fun c748 => ?_) (fun c748 => ?_)
      · replace h := h.1 c748
        refine lv_goto (tgt := 2255) hx hb dL_law_2160 (by decide) ?_
        obtain ⟨x749, ex749⟩ : ∃ y : Int32, y = l5 + 7 := ⟨_, rfl⟩
        replace h := h x749 ex749
        refine lv_iinc (v := x749) (lv' := [(5, .int x749), (7, .double r738), (6, .int r728), (0, .ref b), (1, .ref l1), (2, .ref l2), (3, .ref l3), (4, .ref l4)]) hx hb dL_law_2255 hl (k := 7) rfl (by rw [ex749]; rfl) (by decide) rfl (fun ls hl => ?_)
        refine lv_goto (tgt := 28) hx hb dL_law_2258 (by decide) ?_
        exact hK9 _ _ _ _ _ _ _ _ _ cl732 sl733 kc730 ks731 hcc hss h hh hS (lv_sub hl [3, 4, 5, 6, 7, 0] rfl)
      · replace h := h.2 c748
        refine lv_aload hx hb dL_law_2138 (lv_at hl 6 rfl) ?_
        refine lv_iconst (v := 0) hx hb dL_law_2140 (by decide) ?_
        obtain ⟨g750, h⟩ := h
        obtain ⟨g751, h⟩ := h
        refine xr_dald hx hb hK hh g750 g751 dL_law_2141 ?_
        refine lv_aload hx hb dL_law_2142 (lv_at hl 6 rfl) ?_
        refine lv_iconst (v := 0) hx hb dL_law_2144 (by decide) ?_
        obtain ⟨g752, h⟩ := h
        obtain ⟨g753, h⟩ := h
        refine xr_dald hx hb hK hh g752 g753 dL_law_2145 ?_
        refine lv_dcmp hx hb dL_law_2146 ?_
        refine lv_if_eq (tgt := 2158) hx hb dL_law_2147 (by decide) (fun c754 => ?_) (fun c754 => ?_)
        · replace h := h.1 c754
          refine lv_iconst (v := 0) hx hb dL_law_2158 (by decide) ?_
          exact h.elim
        · replace h := h.2 c754
          refine lv_dload hx hb dL_law_2150 (lv_at hl 0 rfl) ?_
          refine lv_dload hx hb dL_law_2152 (lv_at hl 0 rfl) ?_
          refine lv_dcmp hx hb dL_law_2154 ?_
          refine lv_if_ne (tgt := 2160) hx hb dL_law_2155 (by decide) (fun c755 => ?_) (fun c755 => ?_)
          · replace h := h.1 c755
            refine lv_goto (tgt := 2255) hx hb dL_law_2160 (by decide) ?_
            obtain ⟨x756, ex756⟩ : ∃ y : Int32, y = l5 + 7 := ⟨_, rfl⟩
            replace h := h x756 ex756
            refine lv_iinc (v := x756) (lv' := [(5, .int x756), (7, .double r738), (6, .int r728), (0, .ref b), (1, .ref l1), (2, .ref l2), (3, .ref l3), (4, .ref l4)]) hx hb dL_law_2255 hl (k := 7) rfl (by rw [ex756]; rfl) (by decide) rfl (fun ls hl => ?_)
            refine lv_goto (tgt := 28) hx hb dL_law_2258 (by decide) ?_
            exact hK9 _ _ _ _ _ _ _ _ _ cl732 sl733 kc730 ks731 hcc hss h hh hS (lv_sub hl [3, 4, 5, 6, 7, 0] rfl)
          · replace h := h.2 c755
            refine lv_iconst (v := 0) hx hb dL_law_2158 (by decide) ?_
            exact h.elim
  · replace h := h.2 c743
    refine lv_iconst (v := 0) hx hb dL_law_2121 (by decide) ?_
    exact h.elim

set_option maxHeartbeats 4000000 in
set_option maxRecDepth 100000 in
theorem bk_L_law_2163 {b LL : Nat} {xs : Nat → Int32} {p : Program} {l : Launch} {e : Env} {s : State} {m : MethodId} {below : List Frame} {meth : Method} {c : Code} {G : GG} (C0 : BC p s m #[Value.ref b] meth c G s.heap.size RL cL_law 9 ret wsL_law) (hl9 : l.stackTraces = false) (hXs : va_X b LL xs s s.heap) (hbl : b < s.heap.size)  {K : Nat → Nat → Nat → Nat → Int32 → MM → Nat → Nat → Prop} (hK9 : ∀ (l1 : Nat) (l2 : Nat) (l3 : Nat) (l4 : Nat) (l5 : Int32) (m0 : MM) (H : Heap) (locs : List Loc) (ls : Array Slot) (cl9 sl9 kc ks : Nat) (hcc : cl9 + kc ≤ 601024) (hss : sl9 + ks ≤ 7293034), K l1 l2 l3 l4 l5 m0 kc ks → hp G (xA s.heap.size) m0 H → va_S (xA s.heap.size) s.heap H locs → lv_has ls 9 [(0, .ref b), (1, .ref l1), (2, .ref l2), (3, .ref l3), (4, .ref l4), (5, .int l5)] → W p l e room_1 s m #[Value.ref b] below meth c H locs cl9 sl9 (lw_Z below #[Value.ref b] s) (F0 m 28 ls [])) : ∀ (l1 : Nat) (l2 : Nat) (l3 : Nat) (l4 : Nat) (l5 : Int32) (m0 : MM) (H : Heap) (locs : List Loc) (ls : Array Slot) (cl9 sl9 kc ks : Nat) (hcc : cl9 + kc ≤ 601024) (hss : sl9 + ks ≤ 7293034), wp_L_law_2163 xs LL K l1 l2 l3 l4 l5 m0 kc ks → hp G (xA s.heap.size) m0 H → va_S (xA s.heap.size) s.heap H locs → lv_has ls 9 [(0, .ref b), (1, .ref l1), (2, .ref l2), (3, .ref l3), (4, .ref l4), (5, .int l5)] → W p l e room_1 s m #[Value.ref b] below meth c H locs cl9 sl9 (lw_Z below #[Value.ref b] s) (F0 m 2163 ls []) := by
  obtain ⟨hx, hb, hr, hml, hown, hts, hlocks, hK, hbase, hX⟩ := id C0
  have hbA : ¬ xA s.heap.size b := Nat.not_le.mpr hbl
  intro l1 l2 l3 l4 l5 m0 H locs ls cl9 sl9 kc ks hcc hss h hh hS hl
  unfold wp_L_law_2163 at h
  refine lv_aload_n hx hb dL_law_2163 rfl (lv_at hl 1 rfl) ?_
  refine lv_aload_n hx hb dL_law_2164 rfl (lv_at hl 0 rfl) ?_
  refine lv_iload hx hb dL_law_2165 (lv_at hl 5 rfl) ?_
  refine lv_iconst (v := 1) hx hb dL_law_2167 (by decide) ?_
  refine lv_iadd hx hb dL_law_2168 ?_
  obtain ⟨g757, h⟩ := h
  refine va_sld hx hb hXs hbl hbA hS g757 dL_law_2169 ?_
  refine lv_aload_n hx hb dL_law_2170 rfl (lv_at hl 0 rfl) ?_
  refine lv_iload hx hb dL_law_2171 (lv_at hl 5 rfl) ?_
  refine lv_iconst (v := 2) hx hb dL_law_2173 (by decide) ?_
  refine lv_iadd hx hb dL_law_2174 ?_
  obtain ⟨g758, h⟩ := h
  refine va_sld hx hb hXs hbl hbA hS g758 dL_law_2175 ?_
  refine lv_aload_n hx hb dL_law_2176 rfl (lv_at hl 0 rfl) ?_
  refine lv_iload hx hb dL_law_2177 (lv_at hl 5 rfl) ?_
  refine lv_iconst (v := 3) hx hb dL_law_2179 (by decide) ?_
  refine lv_iadd hx hb dL_law_2180 ?_
  obtain ⟨g759, h⟩ := h
  refine va_sld hx hb hXs hbl hbA hS g759 dL_law_2181 ?_
  refine lv_aload_n hx hb dL_law_2182 rfl (lv_at hl 0 rfl) ?_
  refine lv_iload hx hb dL_law_2183 (lv_at hl 5 rfl) ?_
  refine lv_iconst (v := 4) hx hb dL_law_2185 (by decide) ?_
  refine lv_iadd hx hb dL_law_2186 ?_
  obtain ⟨g760, h⟩ := h
  refine va_sld hx hb hXs hbl hbA hS g760 dL_law_2187 ?_
  refine lv_aload_n hx hb dL_law_2188 rfl (lv_at hl 3 rfl) ?_
  obtain ⟨g761, g762, h⟩ := h
  refine xt_i (vx_runSX (As := [.ref l1, .int (xs (l5 + (1 : Int32)).toNatClampNeg), .int (xs (l5 + (2 : Int32)).toNatClampNeg), .int (xs (l5 + (3 : Int32)).toNatClampNeg), .int (xs (l5 + (4 : Int32)).toNatClampNeg), .ref l3]) (rest := []) ⟨hx, hb, hml, hown, hts⟩ (mt_L_gaps l hl9 G (s.heap.size) h) (vx_cwSW 6 hts gL_law_L_gaps rfl rfl rfl (by decide +kernel) ⟨Nat.le_of_ble_eq_true rfl, Nat.le_of_ble_eq_true rfl⟩) (xp_S hbase hh hK hX hS) rfl rfl hl.1 rfl (lv_room (Nat.le_of_ble_eq_true rfl)) dL_law_2189 ⟨by show _ ≤ 601024; omega, by show _ ≤ 7293034; omega⟩) hS (fun k9 m9 H locs q9 ce h hh hS hc9 hv9 hcl9 => h.elim) (fun r763 m764 H locs h hh hS => ?_)
  obtain ⟨kc765, ekc765⟩ : ∃ z : Nat, z = kc - 4 := ⟨_, rfl⟩
  obtain ⟨ks766, eks766⟩ : ∃ z : Nat, z = ks - 24 := ⟨_, rfl⟩
  replace h := h kc765 ks766 ekc765 eks766
  obtain ⟨cl767, ecl767⟩ : ∃ z : Nat, z = cl9 + 4 := ⟨_, rfl⟩
  obtain ⟨sl768, esl768⟩ : ∃ z : Nat, z = sl9 + 24 := ⟨_, rfl⟩
  refine W_cs ecl767 esl768 ?_
  have hcc : cl767 + kc765 ≤ 601024 := by omega
  have hss : sl768 + ks766 ≤ 7293034 := by omega
  refine lv_istore (lv' := [(6, .int r763), (0, .ref b), (1, .ref l1), (2, .ref l2), (3, .ref l3), (4, .ref l4), (5, .int l5)]) hx hb dL_law_2192 hl (by decide) rfl (fun ls hl => ?_)
  refine lv_aload_n hx hb dL_law_2194 rfl (lv_at hl 3 rfl) ?_
  refine lv_aload_n hx hb dL_law_2195 rfl (lv_at hl 1 rfl) ?_
  refine lv_iload hx hb dL_law_2196 (lv_at hl 6 rfl) ?_
  refine lv_iconst (v := 1) hx hb dL_law_2198 (by decide) ?_
  refine lv_iadd hx hb dL_law_2199 ?_
  obtain ⟨g769, h⟩ := h
  refine va_sld hx hb hXs hbl hbA hS g769 dL_law_2200 ?_
  refine lv_aload_n hx hb dL_law_2201 rfl (lv_at hl 1 rfl) ?_
  refine lv_iload hx hb dL_law_2202 (lv_at hl 6 rfl) ?_
  refine lv_iconst (v := 2) hx hb dL_law_2204 (by decide) ?_
  refine lv_iadd hx hb dL_law_2205 ?_
  obtain ⟨g770, h⟩ := h
  refine va_sld hx hb hXs hbl hbA hS g770 dL_law_2206 ?_
  refine lv_aload_n hx hb dL_law_2207 rfl (lv_at hl 1 rfl) ?_
  refine lv_iload hx hb dL_law_2208 (lv_at hl 6 rfl) ?_
  refine lv_iconst (v := 3) hx hb dL_law_2210 (by decide) ?_
  refine lv_iadd hx hb dL_law_2211 ?_
  obtain ⟨g771, h⟩ := h
  refine va_sld hx hb hXs hbl hbA hS g771 dL_law_2212 ?_
  refine lv_aload_n hx hb dL_law_2213 rfl (lv_at hl 1 rfl) ?_
  refine lv_iload hx hb dL_law_2214 (lv_at hl 6 rfl) ?_
  refine lv_iconst (v := 4) hx hb dL_law_2216 (by decide) ?_
  refine lv_iadd hx hb dL_law_2217 ?_
  obtain ⟨g772, h⟩ := h
  refine va_sld hx hb hXs hbl hbA hS g772 dL_law_2218 ?_
  obtain ⟨g773, h⟩ := h
  refine xc_i (va_runV (As := [.int (xs (l5 + (1 : Int32)).toNatClampNeg), .int (xs (l5 + (2 : Int32)).toNatClampNeg), .int (xs (l5 + (3 : Int32)).toNatClampNeg), .int (xs (l5 + (4 : Int32)).toNatClampNeg)]) (rest := []) ⟨hx, hb, hml, hown, hts⟩ (mt_X6_gaps l G (s.heap.size) h) (cwV 4 hts gL_law_X6_gaps rfl rfl rfl (by decide +kernel) ⟨Nat.le_of_ble_eq_true rfl, Nat.le_of_ble_eq_true rfl⟩) (xp_V hbase hh hK hX hS (ci := 6) g773 (by decide) rfl) rfl rfl hl.1 rfl (lv_room (Nat.le_of_ble_eq_true rfl)) dL_law_2219 ⟨by show _ ≤ 601024; omega, by show _ ≤ 7293034; omega⟩) hS (fun r774 m775 H locs h hh hS => ?_)
  refine lv_istore (lv' := [(7, .int r774), (6, .int r763), (0, .ref b), (1, .ref l1), (2, .ref l2), (3, .ref l3), (4, .ref l4), (5, .int l5)]) hx hb dL_law_2222 hl (by decide) rfl (fun ls hl => ?_)
  refine lv_aload_n hx hb dL_law_2224 rfl (lv_at hl 4 rfl) ?_
  obtain ⟨g776, h⟩ := h
  refine xc_i (va_runV (As := []) (rest := []) ⟨hx, hb, hml, hown, hts⟩ (mt_X6_thrown l G (s.heap.size) h) (cwV 0 hts gL_law_X6_thrown rfl rfl rfl (by decide +kernel) ⟨Nat.le_of_ble_eq_true rfl, Nat.le_of_ble_eq_true rfl⟩) (xp_V hbase hh hK hX hS (ci := 6) g776 (by decide) rfl) rfl rfl hl.1 rfl (lv_room (Nat.le_of_ble_eq_true rfl)) dL_law_2225 ⟨by show _ ≤ 601024; omega, by show _ ≤ 7293034; omega⟩) hS (fun r777 m778 H locs h hh hS => ?_)
  refine lv_iload hx hb dL_law_2228 (lv_at hl 1 rfl) ?_
  refine lv_icmp_eq (tgt := 2235) hx hb dL_law_2230 (by decide) (fun c779 => ?_) (fun c779 => ?_)
  · replace h := h.1 c779
    refine lv_iload hx hb dL_law_2235 (lv_at hl 1 rfl) ?_
    refine lv_if_ne (tgt := 2252) hx hb dL_law_2237 (by decide) (fun c780 => ?_) (fun c780 => ?_)
    · replace h := h.1 c780
      refine lv_goto (tgt := 2255) hx hb dL_law_2252 (by decide) ?_
      obtain ⟨x781, ex781⟩ : ∃ y : Int32, y = l5 + 7 := ⟨_, rfl⟩
      replace h := h x781 ex781
      refine lv_iinc (v := x781) (lv' := [(5, .int x781), (7, .int r774), (6, .int r763), (0, .ref b), (1, .ref l1), (2, .ref l2), (3, .ref l3), (4, .ref l4)]) hx hb dL_law_2255 hl (k := 7) rfl (by rw [ex781]; rfl) (by decide) rfl (fun ls hl => ?_)
      refine lv_goto (tgt := 28) hx hb dL_law_2258 (by decide) ?_
      exact hK9 _ _ _ _ _ _ _ _ _ cl767 sl768 kc765 ks766 hcc hss h hh hS (lv_sub hl [3, 4, 5, 6, 7, 0] rfl)
    · replace h := h.2 c780
      refine lv_aload_n hx hb dL_law_2240 rfl (lv_at hl 5 rfl) ?_
      refine lv_iconst (v := 0) hx hb dL_law_2241 (by decide) ?_
      obtain ⟨g782, h⟩ := h
      obtain ⟨g783, h⟩ := h
      refine xr_lald hx hb hK hh g782 g783 dL_law_2242 ?_
      refine lv_iload hx hb dL_law_2243 (lv_at hl 0 rfl) ?_
      refine lv_i2l hx hb dL_law_2245 rfl ?_
      refine W.lcmp hx hb dL_law_2246 ?_
      refine lv_if_eq (tgt := 2252) hx hb dL_law_2247 (by decide) (fun c784 => ?_) (fun c784 => ?_)
      · replace h := h.1 c784
        refine lv_goto (tgt := 2255) hx hb dL_law_2252 (by decide) ?_
        obtain ⟨x785, ex785⟩ : ∃ y : Int32, y = l5 + 7 := ⟨_, rfl⟩
        replace h := h x785 ex785
        refine lv_iinc (v := x785) (lv' := [(5, .int x785), (7, .int r774), (6, .int r763), (0, .ref b), (1, .ref l1), (2, .ref l2), (3, .ref l3), (4, .ref l4)]) hx hb dL_law_2255 hl (k := 7) rfl (by rw [ex785]; rfl) (by decide) rfl (fun ls hl => ?_)
        refine lv_goto (tgt := 28) hx hb dL_law_2258 (by decide) ?_
        exact hK9 _ _ _ _ _ _ _ _ _ cl767 sl768 kc765 ks766 hcc hss h hh hS (lv_sub hl [3, 4, 5, 6, 7, 0] rfl)
      · replace h := h.2 c784
        refine lv_iconst (v := 0) hx hb dL_law_2250 (by decide) ?_
        exact h.elim
  · replace h := h.2 c779
    refine lv_iconst (v := 0) hx hb dL_law_2233 (by decide) ?_
    exact h.elim

set_option maxHeartbeats 4000000 in
set_option maxRecDepth 100000 in
theorem bk_L_law_28 {b LL : Nat} {xs : Nat → Int32} {p : Program} {l : Launch} {e : Env} {s : State} {m : MethodId} {below : List Frame} {meth : Method} {c : Code} {G : GG} (C0 : BC p s m #[Value.ref b] meth c G s.heap.size RL cL_law 9 ret wsL_law) (hl9 : l.stackTraces = false) (hXs : va_X b LL xs s s.heap) (hbl : b < s.heap.size)  : ∀ (n : Nat) (l1 : Nat) (l2 : Nat) (l3 : Nat) (l4 : Nat) (l5 : Int32) (m0 : MM) (H : Heap) (locs : List Loc) (ls : Array Slot) (cl9 sl9 kc ks : Nat) (hcc : cl9 + kc ≤ 601024) (hss : sl9 + ks ≤ 7293034), wp_L_law_28 xs LL n l1 l2 l3 l4 l5 m0 kc ks → hp G (xA s.heap.size) m0 H → va_S (xA s.heap.size) s.heap H locs → lv_has ls 9 [(0, .ref b), (1, .ref l1), (2, .ref l2), (3, .ref l3), (4, .ref l4), (5, .int l5)] → W p l e room_1 s m #[Value.ref b] below meth c H locs cl9 sl9 (lw_Z below #[Value.ref b] s) (F0 m 28 ls []) := by
  obtain ⟨hx, hb, hr, hml, hown, hts, hlocks, hK, hbase, hX⟩ := id C0
  have hbA : ¬ xA s.heap.size b := Nat.not_le.mpr hbl
  intro n
  induction n with
  | zero =>
    intro l1 l2 l3 l4 l5 m0 H locs ls cl9 sl9 kc ks hcc hss h
    unfold wp_L_law_28 at h
    exact h.elim
  | succ n ih =>
    intro l1 l2 l3 l4 l5 m0 H locs ls cl9 sl9 kc ks hcc hss h hh hS hl
    unfold wp_L_law_28 at h
    refine lv_iload hx hb dL_law_28 (lv_at hl 5 rfl) ?_
    refine lv_aload_n hx hb dL_law_30 rfl (lv_at hl 0 rfl) ?_
    refine va_slen hx hb hXs hbl hbA hS dL_law_31 ?_
    refine lv_bipush (v := 7) hx hb dL_law_32 (by decide) ?_
    refine lv_isub hx hb dL_law_34 ?_
    refine lv_icmp_gt (tgt := 2261) hx hb dL_law_35 (by decide) (fun c50 => ?_) (fun c50 => ?_)
    · replace h := h.1 c50
      refine lv_iconst (v := 1) hx hb dL_law_2261 (by decide) ?_
      refine va_forget (fun q hq => hS.2.2 q hq) ?_
      refine W.widen (k := 601024) (n := 7293034) (by omega) (by omega) ?_
      refine W.base ?_
      exact lw_ret (Drawn.sameBut.refl s.drawn lw_cs) hx hb hr hlocks dL_law_2262
    · replace h := h.2 c50
      refine lv_aload_n hx hb dL_law_38 rfl (lv_at hl 0 rfl) ?_
      refine lv_iload hx hb dL_law_39 (lv_at hl 5 rfl) ?_
      obtain ⟨g51, h⟩ := h
      refine va_sld hx hb hXs hbl hbA hS g51 dL_law_41 ?_
      refine lv_bipush (v := 31) hx hb dL_law_42 (by decide) ?_
      refine lv_iand hx hb dL_law_44 ?_
      refine lv_topi (fun x52 ex52 => ?_)
      replace h := h x52 ex52
      rcases Classical.em (vp_in x52 28) with hv9 | hv9
      · obtain ⟨j9, hj9, ej9⟩ := vp_in_of hv9 (by decide)
        rcases (show j9 = 0 ∨ j9 = 1 ∨ j9 = 2 ∨ j9 = 3 ∨ j9 = 4 ∨ j9 = 5 ∨ j9 = 6 ∨ j9 = 7 ∨ j9 = 8 ∨ j9 = 9 ∨ j9 = 10 ∨ j9 = 11 ∨ j9 = 12 ∨ j9 = 13 ∨ j9 = 14 ∨ j9 = 15 ∨ j9 = 16 ∨ j9 = 17 ∨ j9 = 18 ∨ j9 = 19 ∨ j9 = 20 ∨ j9 = 21 ∨ j9 = 22 ∨ j9 = 23 ∨ j9 = 24 ∨ j9 = 25 ∨ j9 = 26 ∨ j9 = 27 by omega) with rfl | rfl | rfl | rfl | rfl | rfl | rfl | rfl | rfl | rfl | rfl | rfl | rfl | rfl | rfl | rfl | rfl | rfl | rfl | rfl | rfl | rfl | rfl | rfl | rfl | rfl | rfl | rfl
        · replace h := h.1 ej9
          refine lv_tableIn (tgt := 172) (off := 127) hx hb dL_law_45 (by rw [ej9]; decide) (by rw [ej9]; decide) (by rw [ej9]; decide) (by decide) ?_
          exact bk_L_law_172 C0 hl9 hXs hbl  (K := wp_L_law_28 xs LL n) ih _ _ _ _ _ _ _ _ _ cl9 sl9 kc ks hcc hss h hh hS (lv_sub hl [0, 1, 2, 3, 4, 5] rfl)
        · replace h := h.2.1 ej9
          refine lv_tableIn (tgt := 228) (off := 183) hx hb dL_law_45 (by rw [ej9]; decide) (by rw [ej9]; decide) (by rw [ej9]; decide) (by decide) ?_
          exact bk_L_law_228 C0 hl9 hXs hbl  (K := wp_L_law_28 xs LL n) ih _ _ _ _ _ _ _ _ _ cl9 sl9 kc ks hcc hss h hh hS (lv_sub hl [0, 1, 2, 3, 4, 5] rfl)
        · replace h := h.2.2.1 ej9
          refine lv_tableIn (tgt := 315) (off := 270) hx hb dL_law_45 (by rw [ej9]; decide) (by rw [ej9]; decide) (by rw [ej9]; decide) (by decide) ?_
          exact bk_L_law_315 C0 hl9 hXs hbl  (K := wp_L_law_28 xs LL n) ih _ _ _ _ _ _ _ _ _ cl9 sl9 kc ks hcc hss h hh hS (lv_sub hl [0, 1, 2, 3, 4, 5] rfl)
        · replace h := h.2.2.2.1 ej9
          refine lv_tableIn (tgt := 433) (off := 388) hx hb dL_law_45 (by rw [ej9]; decide) (by rw [ej9]; decide) (by rw [ej9]; decide) (by decide) ?_
          exact bk_L_law_433 C0 hl9 hXs hbl  (K := wp_L_law_28 xs LL n) ih _ _ _ _ _ _ _ _ _ cl9 sl9 kc ks hcc hss h hh hS (lv_sub hl [0, 1, 2, 3, 4, 5] rfl)
        · replace h := h.2.2.2.2.1 ej9
          refine lv_tableIn (tgt := 501) (off := 456) hx hb dL_law_45 (by rw [ej9]; decide) (by rw [ej9]; decide) (by rw [ej9]; decide) (by decide) ?_
          exact bk_L_law_501 C0 hl9 hXs hbl  (K := wp_L_law_28 xs LL n) ih _ _ _ _ _ _ _ _ _ cl9 sl9 kc ks hcc hss h hh hS (lv_sub hl [0, 1, 2, 3, 4, 5] rfl)
        · replace h := h.2.2.2.2.2.1 ej9
          refine lv_tableIn (tgt := 557) (off := 512) hx hb dL_law_45 (by rw [ej9]; decide) (by rw [ej9]; decide) (by rw [ej9]; decide) (by decide) ?_
          exact bk_L_law_557 C0 hl9 hXs hbl  (K := wp_L_law_28 xs LL n) ih _ _ _ _ _ _ _ _ _ cl9 sl9 kc ks hcc hss h hh hS (lv_sub hl [0, 1, 2, 3, 4, 5] rfl)
        · replace h := h.2.2.2.2.2.2.1 ej9
          refine lv_tableIn (tgt := 625) (off := 580) hx hb dL_law_45 (by rw [ej9]; decide) (by rw [ej9]; decide) (by rw [ej9]; decide) (by decide) ?_
          exact bk_L_law_625 C0 hl9 hXs hbl  (K := wp_L_law_28 xs LL n) ih _ _ _ _ _ _ _ _ _ cl9 sl9 kc ks hcc hss h hh hS (lv_sub hl [0, 1, 2, 3, 4, 5] rfl)
        · replace h := h.2.2.2.2.2.2.2.1 ej9
          refine lv_tableIn (tgt := 638) (off := 593) hx hb dL_law_45 (by rw [ej9]; decide) (by rw [ej9]; decide) (by rw [ej9]; decide) (by decide) ?_
          exact bk_L_law_638 C0 hl9 hXs hbl  (K := wp_L_law_28 xs LL n) ih _ _ _ _ _ _ _ _ _ cl9 sl9 kc ks hcc hss h hh hS (lv_sub hl [0, 1, 2, 3, 4, 5] rfl)
        · replace h := h.2.2.2.2.2.2.2.2.1 ej9
          refine lv_tableIn (tgt := 651) (off := 606) hx hb dL_law_45 (by rw [ej9]; decide) (by rw [ej9]; decide) (by rw [ej9]; decide) (by decide) ?_
          exact bk_L_law_651 C0 hl9 hXs hbl  (K := wp_L_law_28 xs LL n) ih _ _ _ _ _ _ _ _ _ cl9 sl9 kc ks hcc hss h hh hS (lv_sub hl [0, 1, 2, 3, 4, 5] rfl)
        · replace h := h.2.2.2.2.2.2.2.2.2.1 ej9
          refine lv_tableIn (tgt := 707) (off := 662) hx hb dL_law_45 (by rw [ej9]; decide) (by rw [ej9]; decide) (by rw [ej9]; decide) (by decide) ?_
          exact bk_L_law_707 C0 hl9 hXs hbl  (K := wp_L_law_28 xs LL n) ih _ _ _ _ _ _ _ _ _ cl9 sl9 kc ks hcc hss h hh hS (lv_sub hl [0, 1, 2, 3, 4, 5] rfl)
        · replace h := h.2.2.2.2.2.2.2.2.2.2.1 ej9
          refine lv_tableIn (tgt := 775) (off := 730) hx hb dL_law_45 (by rw [ej9]; decide) (by rw [ej9]; decide) (by rw [ej9]; decide) (by decide) ?_
          exact bk_L_law_775 C0 hl9 hXs hbl  (K := wp_L_law_28 xs LL n) ih _ _ _ _ _ _ _ _ _ cl9 sl9 kc ks hcc hss h hh hS (lv_sub hl [0, 1, 2, 3, 4, 5] rfl)
        · replace h := h.2.2.2.2.2.2.2.2.2.2.2.1 ej9
          refine lv_tableIn (tgt := 855) (off := 810) hx hb dL_law_45 (by rw [ej9]; decide) (by rw [ej9]; decide) (by rw [ej9]; decide) (by decide) ?_
          exact bk_L_law_855 C0 hl9 hXs hbl  (K := wp_L_law_28 xs LL n) ih _ _ _ _ _ _ _ _ _ cl9 sl9 kc ks hcc hss h hh hS (lv_sub hl [0, 1, 2, 3, 4, 5] rfl)
        · replace h := h.2.2.2.2.2.2.2.2.2.2.2.2.1 ej9
          refine lv_tableIn (tgt := 923) (off := 878) hx hb dL_law_45 (by rw [ej9]; decide) (by rw [ej9]; decide) (by rw [ej9]; decide) (by decide) ?_
          exact bk_L_law_923 C0 hl9 hXs hbl  (K := wp_L_law_28 xs LL n) ih _ _ _ _ _ _ _ _ _ cl9 sl9 kc ks hcc hss h hh hS (lv_sub hl [0, 1, 2, 3, 4, 5] rfl)
        · replace h := h.2.2.2.2.2.2.2.2.2.2.2.2.2.1 ej9
          refine lv_tableIn (tgt := 1010) (off := 965) hx hb dL_law_45 (by rw [ej9]; decide) (by rw [ej9]; decide) (by rw [ej9]; decide) (by decide) ?_
          exact bk_L_law_1010 C0 hl9 hXs hbl  (K := wp_L_law_28 xs LL n) ih _ _ _ _ _ _ _ _ _ cl9 sl9 kc ks hcc hss h hh hS (lv_sub hl [0, 1, 2, 3, 4, 5] rfl)
        · replace h := h.2.2.2.2.2.2.2.2.2.2.2.2.2.2.1 ej9
          refine lv_tableIn (tgt := 1090) (off := 1045) hx hb dL_law_45 (by rw [ej9]; decide) (by rw [ej9]; decide) (by rw [ej9]; decide) (by decide) ?_
          exact bk_L_law_1090 C0 hl9 hXs hbl  (K := wp_L_law_28 xs LL n) ih _ _ _ _ _ _ _ _ _ cl9 sl9 kc ks hcc hss h hh hS (lv_sub hl [0, 1, 2, 3, 4, 5] rfl)
        · replace h := h.2.2.2.2.2.2.2.2.2.2.2.2.2.2.2.1 ej9
          refine lv_tableIn (tgt := 1169) (off := 1124) hx hb dL_law_45 (by rw [ej9]; decide) (by rw [ej9]; decide) (by rw [ej9]; decide) (by decide) ?_
          exact bk_L_law_1169 C0 hl9 hXs hbl  (K := wp_L_law_28 xs LL n) ih _ _ _ _ _ _ _ _ _ cl9 sl9 kc ks hcc hss h hh hS (lv_sub hl [0, 1, 2, 3, 4, 5] rfl)
        · replace h := h.2.2.2.2.2.2.2.2.2.2.2.2.2.2.2.2.1 ej9
          refine lv_tableIn (tgt := 1270) (off := 1225) hx hb dL_law_45 (by rw [ej9]; decide) (by rw [ej9]; decide) (by rw [ej9]; decide) (by decide) ?_
          exact bk_L_law_1270 C0 hl9 hXs hbl  (K := wp_L_law_28 xs LL n) ih _ _ _ _ _ _ _ _ _ cl9 sl9 kc ks hcc hss h hh hS (lv_sub hl [0, 1, 2, 3, 4, 5] rfl)
        · replace h := h.2.2.2.2.2.2.2.2.2.2.2.2.2.2.2.2.2.1 ej9
          refine lv_tableIn (tgt := 1350) (off := 1305) hx hb dL_law_45 (by rw [ej9]; decide) (by rw [ej9]; decide) (by rw [ej9]; decide) (by decide) ?_
          exact bk_L_law_1350 C0 hl9 hXs hbl  (K := wp_L_law_28 xs LL n) ih _ _ _ _ _ _ _ _ _ cl9 sl9 kc ks hcc hss h hh hS (lv_sub hl [0, 1, 2, 3, 4, 5] rfl)
        · replace h := h.2.2.2.2.2.2.2.2.2.2.2.2.2.2.2.2.2.2.1 ej9
          refine lv_tableIn (tgt := 1430) (off := 1385) hx hb dL_law_45 (by rw [ej9]; decide) (by rw [ej9]; decide) (by rw [ej9]; decide) (by decide) ?_
          exact bk_L_law_1430 C0 hl9 hXs hbl  (K := wp_L_law_28 xs LL n) ih _ _ _ _ _ _ _ _ _ cl9 sl9 kc ks hcc hss h hh hS (lv_sub hl [0, 1, 2, 3, 4, 5] rfl)
        · replace h := h.2.2.2.2.2.2.2.2.2.2.2.2.2.2.2.2.2.2.2.1 ej9
          refine lv_tableIn (tgt := 1510) (off := 1465) hx hb dL_law_45 (by rw [ej9]; decide) (by rw [ej9]; decide) (by rw [ej9]; decide) (by decide) ?_
          exact bk_L_law_1510 C0 hl9 hXs hbl  (K := wp_L_law_28 xs LL n) ih _ _ _ _ _ _ _ _ _ cl9 sl9 kc ks hcc hss h hh hS (lv_sub hl [0, 1, 2, 3, 4, 5] rfl)
        · replace h := h.2.2.2.2.2.2.2.2.2.2.2.2.2.2.2.2.2.2.2.2.1 ej9
          refine lv_tableIn (tgt := 1590) (off := 1545) hx hb dL_law_45 (by rw [ej9]; decide) (by rw [ej9]; decide) (by rw [ej9]; decide) (by decide) ?_
          exact bk_L_law_1590 C0 hl9 hXs hbl  (K := wp_L_law_28 xs LL n) ih _ _ _ _ _ _ _ _ _ cl9 sl9 kc ks hcc hss h hh hS (lv_sub hl [0, 1, 2, 3, 4, 5] rfl)
        · replace h := h.2.2.2.2.2.2.2.2.2.2.2.2.2.2.2.2.2.2.2.2.2.1 ej9
          refine lv_tableIn (tgt := 1682) (off := 1637) hx hb dL_law_45 (by rw [ej9]; decide) (by rw [ej9]; decide) (by rw [ej9]; decide) (by decide) ?_
          exact bk_L_law_1682 C0 hl9 hXs hbl  (K := wp_L_law_28 xs LL n) ih _ _ _ _ _ _ _ _ _ cl9 sl9 kc ks hcc hss h hh hS (lv_sub hl [0, 1, 2, 3, 4, 5] rfl)
        · replace h := h.2.2.2.2.2.2.2.2.2.2.2.2.2.2.2.2.2.2.2.2.2.2.1 ej9
          refine lv_tableIn (tgt := 1750) (off := 1705) hx hb dL_law_45 (by rw [ej9]; decide) (by rw [ej9]; decide) (by rw [ej9]; decide) (by decide) ?_
          exact bk_L_law_1750 C0 hl9 hXs hbl  (K := wp_L_law_28 xs LL n) ih _ _ _ _ _ _ _ _ _ cl9 sl9 kc ks hcc hss h hh hS (lv_sub hl [0, 1, 2, 3, 4, 5] rfl)
        · replace h := h.2.2.2.2.2.2.2.2.2.2.2.2.2.2.2.2.2.2.2.2.2.2.2.1 ej9
          refine lv_tableIn (tgt := 1825) (off := 1780) hx hb dL_law_45 (by rw [ej9]; decide) (by rw [ej9]; decide) (by rw [ej9]; decide) (by decide) ?_
          exact bk_L_law_1825 C0 hl9 hXs hbl  (K := wp_L_law_28 xs LL n) ih _ _ _ _ _ _ _ _ _ cl9 sl9 kc ks hcc hss h hh hS (lv_sub hl [0, 1, 2, 3, 4, 5] rfl)
        · replace h := h.2.2.2.2.2.2.2.2.2.2.2.2.2.2.2.2.2.2.2.2.2.2.2.2.1 ej9
          refine lv_tableIn (tgt := 1904) (off := 1859) hx hb dL_law_45 (by rw [ej9]; decide) (by rw [ej9]; decide) (by rw [ej9]; decide) (by decide) ?_
          exact bk_L_law_1904 C0 hl9 hXs hbl  (K := wp_L_law_28 xs LL n) ih _ _ _ _ _ _ _ _ _ cl9 sl9 kc ks hcc hss h hh hS (lv_sub hl [0, 1, 2, 3, 4, 5] rfl)
        · replace h := h.2.2.2.2.2.2.2.2.2.2.2.2.2.2.2.2.2.2.2.2.2.2.2.2.2.1 ej9
          refine lv_tableIn (tgt := 1983) (off := 1938) hx hb dL_law_45 (by rw [ej9]; decide) (by rw [ej9]; decide) (by rw [ej9]; decide) (by decide) ?_
          exact bk_L_law_1983 C0 hl9 hXs hbl  (K := wp_L_law_28 xs LL n) ih _ _ _ _ _ _ _ _ _ cl9 sl9 kc ks hcc hss h hh hS (lv_sub hl [0, 1, 2, 3, 4, 5] rfl)
        · replace h := h.2.2.2.2.2.2.2.2.2.2.2.2.2.2.2.2.2.2.2.2.2.2.2.2.2.2.1 ej9
          refine lv_tableIn (tgt := 2062) (off := 2017) hx hb dL_law_45 (by rw [ej9]; decide) (by rw [ej9]; decide) (by rw [ej9]; decide) (by decide) ?_
          exact bk_L_law_2062 C0 hl9 hXs hbl  (K := wp_L_law_28 xs LL n) ih _ _ _ _ _ _ _ _ _ cl9 sl9 kc ks hcc hss h hh hS (lv_sub hl [0, 1, 2, 3, 4, 5] rfl)
        · replace h := h.2.2.2.2.2.2.2.2.2.2.2.2.2.2.2.2.2.2.2.2.2.2.2.2.2.2.2.1 ej9
          refine lv_tableIn (tgt := 2163) (off := 2118) hx hb dL_law_45 (by rw [ej9]; decide) (by rw [ej9]; decide) (by rw [ej9]; decide) (by decide) ?_
          exact bk_L_law_2163 C0 hl9 hXs hbl  (K := wp_L_law_28 xs LL n) ih _ _ _ _ _ _ _ _ _ cl9 sl9 kc ks hcc hss h hh hS (lv_sub hl [0, 1, 2, 3, 4, 5] rfl)
      · replace h := h.2.2.2.2.2.2.2.2.2.2.2.2.2.2.2.2.2.2.2.2.2.2.2.2.2.2.2.2 hv9
        refine lv_tableOut (tgt := 2255) hx hb dL_law_45 (xs_out hv9) (by decide) ?_
        obtain ⟨x786, ex786⟩ : ∃ y : Int32, y = l5 + 7 := ⟨_, rfl⟩
        replace h := h x786 ex786
        refine lv_iinc (v := x786) (lv' := [(5, .int x786), (0, .ref b), (1, .ref l1), (2, .ref l2), (3, .ref l3), (4, .ref l4)]) hx hb dL_law_2255 hl (k := 5) rfl (by rw [ex786]; rfl) (by decide) rfl (fun ls hl => ?_)
        refine lv_goto (tgt := 28) hx hb dL_law_2258 (by decide) ?_
        exact ih _ _ _ _ _ _ _ _ _ cl9 sl9 kc ks hcc hss h hh hS (lv_sub hl [1, 2, 3, 4, 5, 0] rfl)

set_option maxHeartbeats 4000000 in
set_option maxRecDepth 100000 in
theorem mt_L_law {b LL : Nat} {xs : Nat → Int32} {p : Program} {l : Launch} {e : Env} {s : State} {m : MethodId} {below : List Frame} {meth : Method} {c : Code} {G : GG} (C0 : BC p s m #[Value.ref b] meth c G s.heap.size RL cL_law 9 ret wsL_law) (hl9 : l.stackTraces = false) (hXs : va_X b LL xs s s.heap) (hbl : b < s.heap.size) {m0 : MM} {kc ks : Nat} (hcc : 0 + kc ≤ 601024) (hss : 0 + ks ≤ 7293034) (hh : hp G (xA s.heap.size) m0 s.heap) (h : wp_L_law m0 xs LL kc ks) : W p l e room_1 s m #[Value.ref b] below meth c s.heap [] 0 0 (lw_Z below #[Value.ref b] s) (entryFrame m ([Value.ref b] : List Value).toArray 9) := by
  obtain ⟨hx, hb, hr, hml, hown, hts, hlocks, hK, hbase, hX⟩ := id C0
  have hbA : ¬ xA s.heap.size b := Nat.not_le.mpr hbl
  have hS : va_S (xA s.heap.size) s.heap s.heap [] := va_S.rf
  have hl := lv_entry ([.ref b]) (n := 9) (Nat.le_of_ble_eq_true rfl)
  rw [lg_entry_eq]
  generalize (lg_sl ([.ref b]) ++ List.replicate (9 - (lg_sl ([.ref b])).length) Slot.unset).toArray = ls at hl ⊢
  have hl : lv_has ls 9 [(0, .ref b)] := hl
  unfold wp_L_law at h
  have hL5 : ∀ w ∈ u_ws RX5 TX5 7, w.before _ s = true := fun w h9 => hts w (List.mem_append_left _ (List.mem_append_left _ (List.mem_append_left _ (List.mem_append_left _ (List.mem_append_left _ (List.mem_append_left _ (List.mem_append_left _ (List.mem_append_left _ (List.mem_append_left _ (List.mem_append_left _ (List.mem_append_right _ (h9))))))))))))
  have q2 : (Cond.classLink RL 8 RX5).before _ s = true := hts _ (List.mem_append_left _ (List.mem_append_left _ (List.mem_append_left _ (List.mem_append_left _ (List.mem_append_left _ (List.mem_append_left _ (List.mem_append_left _ (List.mem_append_left _ (List.mem_append_left _ (List.mem_append_left _ (List.mem_append_left _ (List.mem_append_left _ (List.mem_of_getElem? (i := 0) rfl)))))))))))))
  have q3 : (Cond.instantiable RX5 7).before _ s = true := hts _ (List.mem_append_left _ (List.mem_append_left _ (List.mem_append_left _ (List.mem_append_left _ (List.mem_append_left _ (List.mem_append_left _ (List.mem_append_left _ (List.mem_append_left _ (List.mem_append_left _ (List.mem_append_left _ (List.mem_append_left _ (List.mem_append_left _ (List.mem_of_getElem? (i := 1) rfl)))))))))))))
  have q4 : (Cond.initialized RX5).before _ s = true := hts _ (List.mem_append_left _ (List.mem_append_left _ (List.mem_append_left _ (List.mem_append_left _ (List.mem_append_left _ (List.mem_append_left _ (List.mem_append_left _ (List.mem_append_left _ (List.mem_append_left _ (List.mem_append_left _ (List.mem_append_left _ (List.mem_append_left _ (List.mem_of_getElem? (i := 2) rfl)))))))))))))
  have q5 : (Cond.methodLink RL 102 yX5_init).before _ s = true := hts _ (List.mem_append_left _ (List.mem_append_left _ (List.mem_append_left _ (List.mem_append_left _ (List.mem_append_left _ (List.mem_append_left _ (List.mem_append_left _ (List.mem_append_left _ (List.mem_append_left _ (List.mem_append_left _ (List.mem_append_left _ (List.mem_append_left _ (List.mem_of_getElem? (i := 8) rfl)))))))))))))
  have q6 : (Cond.instanceMethod yX5_init).before _ s = true := hts _ (List.mem_append_left _ (List.mem_append_left _ (List.mem_append_left _ (List.mem_append_left _ (List.mem_append_left _ (List.mem_append_left _ (List.mem_append_left _ (List.mem_append_left _ (List.mem_append_left _ (List.mem_append_left _ (List.mem_append_left _ (List.mem_append_left _ (List.mem_of_getElem? (i := 9) rfl)))))))))))))
  have hL6 : ∀ w ∈ u_ws RX6 TX6 17, w.before _ s = true := fun w h9 => hts w (List.mem_append_left _ (List.mem_append_left _ (List.mem_append_left _ (List.mem_append_left _ (List.mem_append_left _ (List.mem_append_left _ (List.mem_append_left _ (List.mem_append_left _ (List.mem_append_left _ (List.mem_append_right _ (h9)))))))))))
  have q8 : (Cond.classLink RL 103 RX6).before _ s = true := hts _ (List.mem_append_left _ (List.mem_append_left _ (List.mem_append_left _ (List.mem_append_left _ (List.mem_append_left _ (List.mem_append_left _ (List.mem_append_left _ (List.mem_append_left _ (List.mem_append_left _ (List.mem_append_left _ (List.mem_append_left _ (List.mem_append_left _ (List.mem_of_getElem? (i := 3) rfl)))))))))))))
  have q9 : (Cond.instantiable RX6 17).before _ s = true := hts _ (List.mem_append_left _ (List.mem_append_left _ (List.mem_append_left _ (List.mem_append_left _ (List.mem_append_left _ (List.mem_append_left _ (List.mem_append_left _ (List.mem_append_left _ (List.mem_append_left _ (List.mem_append_left _ (List.mem_append_left _ (List.mem_append_left _ (List.mem_of_getElem? (i := 4) rfl)))))))))))))
  have q10 : (Cond.initialized RX6).before _ s = true := hts _ (List.mem_append_left _ (List.mem_append_left _ (List.mem_append_left _ (List.mem_append_left _ (List.mem_append_left _ (List.mem_append_left _ (List.mem_append_left _ (List.mem_append_left _ (List.mem_append_left _ (List.mem_append_left _ (List.mem_append_left _ (List.mem_append_left _ (List.mem_of_getElem? (i := 5) rfl)))))))))))))
  have q11 : (Cond.methodLink RL 105 yX6_init).before _ s = true := hts _ (List.mem_append_left _ (List.mem_append_left _ (List.mem_append_left _ (List.mem_append_left _ (List.mem_append_left _ (List.mem_append_left _ (List.mem_append_left _ (List.mem_append_left _ (List.mem_append_left _ (List.mem_append_left _ (List.mem_append_left _ (List.mem_append_right _ (List.mem_append_left _ (List.mem_of_getElem? (i := 12) rfl))))))))))))))
  have q12 : (Cond.instanceMethod yX6_init).before _ s = true := hts _ (List.mem_append_left _ (List.mem_append_left _ (List.mem_append_left _ (List.mem_append_left _ (List.mem_append_left _ (List.mem_append_left _ (List.mem_append_left _ (List.mem_append_left _ (List.mem_append_left _ (List.mem_append_left _ (List.mem_append_left _ (List.mem_append_right _ (List.mem_append_left _ (List.mem_of_getElem? (i := 13) rfl))))))))))))))
  have q13 : (Cond.arrayClass .long).before _ s = true := hts _ (List.mem_append_left _ (List.mem_append_left _ (List.mem_append_left _ (List.mem_append_left _ (List.mem_append_left _ (List.mem_append_left _ (List.mem_append_left _ (List.mem_append_left _ (List.mem_append_left _ (List.mem_append_left _ (List.mem_append_left _ (List.mem_append_left _ (List.mem_of_getElem? (i := 6) rfl)))))))))))))
  have q14 : (Cond.arrayClass .double).before _ s = true := hts _ (List.mem_append_left _ (List.mem_append_left _ (List.mem_append_left _ (List.mem_append_left _ (List.mem_append_left _ (List.mem_append_left _ (List.mem_append_left _ (List.mem_append_left _ (List.mem_append_left _ (List.mem_append_left _ (List.mem_append_left _ (List.mem_append_left _ (List.mem_of_getElem? (i := 7) rfl)))))))))))))
  obtain ⟨g2, g3, h⟩ := h
  refine xr_new (ci := 5) (C := RX5) (T := TX5) (N := 7) hx hb hL5 tyX5 tyX5_ok hown q2 q3 q4 hK hh hS hbase (by decide) rfl xd_5 (by show _ ≤ 601024; omega) (by show _ ≤ 7293034; omega) dL_law_0 (fun a1 H ga1 gba1 hh hS => ?_)
  replace h := h a1 ga1
  obtain ⟨m4, em4⟩ : ∃ z : MM, z = nw m0 6 0 a1 := ⟨_, rfl⟩
  rw [← em4] at hh
  replace h := h m4 em4
  obtain ⟨kc5, ekc5⟩ : ∃ z : Nat, z = kc - 1 := ⟨_, rfl⟩
  obtain ⟨ks6, eks6⟩ : ∃ z : Nat, z = ks - 7 := ⟨_, rfl⟩
  replace h := h kc5 ks6 ekc5 eks6
  obtain ⟨cl7, ecl7⟩ : ∃ z : Nat, z = 0 + 1 := ⟨_, rfl⟩
  obtain ⟨sl8, esl8⟩ : ∃ z : Nat, z = 0 + 7 := ⟨_, rfl⟩
  refine W_cs ecl7 esl8 ?_
  have hcc : cl7 + kc5 ≤ 601024 := by omega
  have hss : sl8 + ks6 ≤ 7293034 := by omega
  refine lv_dup hx hb dL_law_3 rfl ?_
  obtain ⟨g9, g10, h⟩ := h
  refine xc_v (va_runI (As := []) (rest := [.ref a1]) ⟨hx, hb, hml, hown, hts⟩ (mt_X5_init l G (s.heap.size) h) (cwI 0 hts gL_law_X5_init rfl rfl rfl q4 q5 q6 rfl (by decide +kernel) ⟨Nat.le_of_ble_eq_true rfl, Nat.le_of_ble_eq_true rfl⟩) (xp_S hbase hh hK hX hS) rfl rfl hl.1 rfl (lv_room (Nat.le_of_ble_eq_true rfl)) dL_law_4 ⟨by show _ ≤ 601024; omega, by show _ ≤ 7293034; omega⟩) hS (fun m12 H locs h hh hS => ?_)
  obtain ⟨kc13, ekc13⟩ : ∃ z : Nat, z = kc5 - 5 := ⟨_, rfl⟩
  obtain ⟨ks14, eks14⟩ : ∃ z : Nat, z = ks6 - 26 := ⟨_, rfl⟩
  replace h := h kc13 ks14 ekc13 eks14
  obtain ⟨cl15, ecl15⟩ : ∃ z : Nat, z = cl7 + 5 := ⟨_, rfl⟩
  obtain ⟨sl16, esl16⟩ : ∃ z : Nat, z = sl8 + 26 := ⟨_, rfl⟩
  refine W_cs ecl15 esl16 ?_
  have hcc : cl15 + kc13 ≤ 601024 := by omega
  have hss : sl16 + ks14 ≤ 7293034 := by omega
  refine lv_astore_n (lv' := [(1, .ref a1), (0, .ref b)]) hx hb dL_law_7 rfl hl (by decide) rfl (fun ls hl => ?_)
  obtain ⟨g18, g19, h⟩ := h
  refine xr_new (ci := 6) (C := RX6) (T := TX6) (N := 17) hx hb hL6 tyX6 tyX6_ok hown q8 q9 q10 hK hh hS hbase (by decide) rfl xd_6 (by show _ ≤ 601024; omega) (by show _ ≤ 7293034; omega) dL_law_8 (fun a17 H ga17 gba17 hh hS => ?_)
  replace h := h a17 ga17
  obtain ⟨m20, em20⟩ : ∃ z : MM, z = nw m12 7 0 a17 := ⟨_, rfl⟩
  rw [← em20] at hh
  replace h := h m20 em20
  obtain ⟨kc21, ekc21⟩ : ∃ z : Nat, z = kc13 - 1 := ⟨_, rfl⟩
  obtain ⟨ks22, eks22⟩ : ∃ z : Nat, z = ks14 - 17 := ⟨_, rfl⟩
  replace h := h kc21 ks22 ekc21 eks22
  obtain ⟨cl23, ecl23⟩ : ∃ z : Nat, z = cl15 + 1 := ⟨_, rfl⟩
  obtain ⟨sl24, esl24⟩ : ∃ z : Nat, z = sl16 + 17 := ⟨_, rfl⟩
  refine W_cs ecl23 esl24 ?_
  have hcc : cl23 + kc21 ≤ 601024 := by omega
  have hss : sl24 + ks22 ≤ 7293034 := by omega
  refine lv_dup hx hb dL_law_11 rfl ?_
  obtain ⟨g25, g26, h⟩ := h
  refine xc_v (va_runI (As := []) (rest := [.ref a17]) ⟨hx, hb, hml, hown, hts⟩ (mt_X6_init l G (s.heap.size) h) (cwI 0 hts gL_law_X6_init rfl rfl rfl q10 q11 q12 rfl (by decide +kernel) ⟨Nat.le_of_ble_eq_true rfl, Nat.le_of_ble_eq_true rfl⟩) (xp_S hbase hh hK hX hS) rfl rfl hl.1 rfl (lv_room (Nat.le_of_ble_eq_true rfl)) dL_law_12 ⟨by show _ ≤ 601024; omega, by show _ ≤ 7293034; omega⟩) hS (fun m28 H locs h hh hS => ?_)
  obtain ⟨kc29, ekc29⟩ : ∃ z : Nat, z = kc21 - 7 := ⟨_, rfl⟩
  obtain ⟨ks30, eks30⟩ : ∃ z : Nat, z = ks22 - 30922 := ⟨_, rfl⟩
  replace h := h kc29 ks30 ekc29 eks30
  obtain ⟨cl31, ecl31⟩ : ∃ z : Nat, z = cl23 + 7 := ⟨_, rfl⟩
  obtain ⟨sl32, esl32⟩ : ∃ z : Nat, z = sl24 + 30922 := ⟨_, rfl⟩
  refine W_cs ecl31 esl32 ?_
  have hcc : cl31 + kc29 ≤ 601024 := by omega
  have hss : sl32 + ks30 ≤ 7293034 := by omega
  refine lv_astore_n (lv' := [(2, .ref a17), (1, .ref a1), (0, .ref b)]) hx hb dL_law_15 rfl hl (by decide) rfl (fun ls hl => ?_)
  refine lv_iconst (v := 1) hx hb dL_law_16 (by decide) ?_
  obtain ⟨g34, g35, h⟩ := h
  refine xr_newl hx hb q13 hK hh hS hbase (n := 1) (N' := 1) (by decide) (by decide) (by decide) (by show _ ≤ 601024; omega) (by show _ ≤ 7293034; omega) dL_law_17 (fun a33 H ga33 gba33 hh hS => ?_)
  replace h := h a33 ga33
  obtain ⟨m36, em36⟩ : ∃ z : MM, z = nw m28 12 1 a33 := ⟨_, rfl⟩
  rw [← em36] at hh
  replace h := h m36 em36
  obtain ⟨kc37, ekc37⟩ : ∃ z : Nat, z = kc29 - 1 := ⟨_, rfl⟩
  obtain ⟨ks38, eks38⟩ : ∃ z : Nat, z = ks30 - 1 := ⟨_, rfl⟩
  replace h := h kc37 ks38 ekc37 eks38
  obtain ⟨cl39, ecl39⟩ : ∃ z : Nat, z = cl31 + 1 := ⟨_, rfl⟩
  obtain ⟨sl40, esl40⟩ : ∃ z : Nat, z = sl32 + 1 := ⟨_, rfl⟩
  refine W_cs ecl39 esl40 ?_
  have hcc : cl39 + kc37 ≤ 601024 := by omega
  have hss : sl40 + ks38 ≤ 7293034 := by omega
  refine lv_astore_n (lv' := [(3, .ref a33), (2, .ref a17), (1, .ref a1), (0, .ref b)]) hx hb dL_law_19 rfl hl (by decide) rfl (fun ls hl => ?_)
  refine lv_iconst (v := 1) hx hb dL_law_20 (by decide) ?_
  obtain ⟨g42, g43, h⟩ := h
  refine xr_newd hx hb q14 hK hh hS hbase (n := 1) (N' := 1) (by decide) (by decide) (by decide) (by show _ ≤ 601024; omega) (by show _ ≤ 7293034; omega) dL_law_21 (fun a41 H ga41 gba41 hh hS => ?_)
  replace h := h a41 ga41
  obtain ⟨m44, em44⟩ : ∃ z : MM, z = nw m36 13 1 a41 := ⟨_, rfl⟩
  rw [← em44] at hh
  replace h := h m44 em44
  obtain ⟨kc45, ekc45⟩ : ∃ z : Nat, z = kc37 - 1 := ⟨_, rfl⟩
  obtain ⟨ks46, eks46⟩ : ∃ z : Nat, z = ks38 - 1 := ⟨_, rfl⟩
  replace h := h kc45 ks46 ekc45 eks46
  obtain ⟨cl47, ecl47⟩ : ∃ z : Nat, z = cl39 + 1 := ⟨_, rfl⟩
  obtain ⟨sl48, esl48⟩ : ∃ z : Nat, z = sl40 + 1 := ⟨_, rfl⟩
  refine W_cs ecl47 esl48 ?_
  have hcc : cl47 + kc45 ≤ 601024 := by omega
  have hss : sl48 + ks46 ≤ 7293034 := by omega
  refine lv_astore (lv' := [(4, .ref a41), (3, .ref a33), (2, .ref a17), (1, .ref a1), (0, .ref b)]) hx hb dL_law_23 hl (by decide) rfl (fun ls hl => ?_)
  refine lv_iconst (v := 0) hx hb dL_law_25 (by decide) ?_
  refine lv_topi (fun x49 ex49 => ?_)
  replace h := h x49 ex49
  refine lv_istore (lv' := [(5, .int x49), (4, .ref a41), (3, .ref a33), (2, .ref a17), (1, .ref a1), (0, .ref b)]) hx hb dL_law_26 hl (by decide) rfl (fun ls hl => ?_)
  obtain ⟨n9, h⟩ := h
  exact bk_L_law_28 C0 hl9 hXs hbl  n9 _ _ _ _ _ _ _ _ _ cl47 sl48 kc45 ks46 hcc hss h hh hS (lv_sub hl [5, 4, 3, 2, 1, 0] rfl)
