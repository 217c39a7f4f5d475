set_option maxHeartbeats 4000000 in
set_option maxRecDepth 20000 in
/-- declare -/
theorem lw_c0 {p : Program} {e : Env} {s : State} {m : MethodId} {below : List Frame} {meth : Method} {c : Code} (l : Launch) {b : Nat} {xs : Nat → Int32} {D : va_G} {cA : Bool → ClassId} {pC pM : Nat → Nat} {xC xM : ai_H} {H : Heap} {locs : List Loc} {ls : Array Slot} (C0 : lw_At p s m meth c b 4 xs) (St : lw_St s b D cA pC pM xC xM H locs ls) :
    W p l e room_1 s m #[Value.ref b] below meth c H locs 72 102720 (lw_Z below #[Value.ref b] s) (F0 m 120 ls []) := by
  obtain ⟨hx, hb, hr, hml, hown, hts, hX, hbl, hlocks, hgv⟩ := id C0
  obtain ⟨hPC, hPM, hdC, hdM, hAC, hAM, hgC, hgM, hS, hl, hK, hN⟩ := St
  have hbA : ¬ (fun q : Nat => s.heap.size ≤ q) b := Nat.not_le.mpr hbl
  obtain ⟨r, h2, h3, c1, c2⟩ := sa_0 hgC hgM (xs (0 + 1 : Int32).toNatClampNeg) (xs (0 + 2 : Int32).toNatClampNeg) (xs (0 + 3 : Int32).toNatClampNeg)
  refine lv_aload_n hx hb d_law_120 rfl (lv_at hl 2 rfl) ?_
  refine lv_aload_n hx hb d_law_121 rfl (lv_at hl 3 rfl) ?_
  refine lv_iload_n hx hb d_law_122 rfl (lv_at hl 0 rfl) ?_
  refine lv_iconst (v := 1) hx hb d_law_123 (by decide +kernel) ?_
  refine lv_iadd hx hb d_law_124 ?_
  refine va_sld hx hb hX hbl hbA hS lw_v1 d_law_125 ?_
  refine lv_aload_n hx hb d_law_126 rfl (lv_at hl 3 rfl) ?_
  refine lv_iload_n hx hb d_law_127 rfl (lv_at hl 0 rfl) ?_
  refine lv_iconst (v := 2) hx hb d_law_128 (by decide +kernel) ?_
  refine lv_iadd hx hb d_law_129 ?_
  refine va_sld hx hb hX hbl hbA hS lw_v2 d_law_130 ?_
  refine lv_aload_n hx hb d_law_131 rfl (lv_at hl 3 rfl) ?_
  refine lv_iload_n hx hb d_law_132 rfl (lv_at hl 0 rfl) ?_
  refine lv_iconst (v := 3) hx hb d_law_133 (by decide +kernel) ?_
  refine lv_iadd hx hb d_law_134 ?_
  refine va_sld hx hb hX hbl hbA hS lw_v3 d_law_135 ?_
  refine lw_call (y := yX7_declare) (yb := cX7_declare) (yn := 5) (yt := some .int) (ci := 7) (na := 3) (d := 7) (k := 29) (ix := 13) (As := [.int (xs (0 + 1 : Int32).toNatClampNeg), .int (xs (0 + 2 : Int32).toNatClampNeg), .int (xs (0 + 3 : Int32).toNatClampNeg)]) (rest := []) (sh := shC) (ad := pC) hx hb hml hown hts lw_in hN hK hAC mokC_78 rfl (ai_sound l hdC ckC mokC 7 78 _ rfl _ _ _ _ c1) (List.mem_of_getElem? (i := 314) (by decide +kernel)) rfl (Nat.le_of_ble_eq_true rfl) (Nat.le_of_ble_eq_true rfl) (Nat.le_of_ble_eq_true rfl) (Nat.le_of_ble_eq_true rfl) hl.1 (Nat.le_of_ble_eq_true rfl) hPC hS d_law_136 (fun H1 locs hk hS => ?_)
  have hPM1 := hPM H1 hk
  refine lv_aload_n hx hb d_law_139 rfl (lv_at hl 1 rfl) ?_
  refine lv_aload_n hx hb d_law_140 rfl (lv_at hl 3 rfl) ?_
  refine lv_iload_n hx hb d_law_141 rfl (lv_at hl 0 rfl) ?_
  refine lv_iconst (v := 1) hx hb d_law_142 (by decide +kernel) ?_
  refine lv_iadd hx hb d_law_143 ?_
  refine va_sld hx hb hX hbl hbA hS lw_v1 d_law_144 ?_
  refine lv_aload_n hx hb d_law_145 rfl (lv_at hl 3 rfl) ?_
  refine lv_iload_n hx hb d_law_146 rfl (lv_at hl 0 rfl) ?_
  refine lv_iconst (v := 2) hx hb d_law_147 (by decide +kernel) ?_
  refine lv_iadd hx hb d_law_148 ?_
  refine va_sld hx hb hX hbl hbA hS lw_v2 d_law_149 ?_
  refine lv_aload_n hx hb d_law_150 rfl (lv_at hl 3 rfl) ?_
  refine lv_iload_n hx hb d_law_151 rfl (lv_at hl 0 rfl) ?_
  refine lv_iconst (v := 3) hx hb d_law_152 (by decide +kernel) ?_
  refine lv_iadd hx hb d_law_153 ?_
  refine va_sld hx hb hX hbl hbA hS lw_v3 d_law_154 ?_
  refine lw_call (y := yX8_declare) (yb := cX8_declare) (yn := 6) (yt := some .int) (ci := 8) (na := 3) (d := 7) (k := 0) (ix := 17) (As := [.int (xs (0 + 1 : Int32).toNatClampNeg), .int (xs (0 + 2 : Int32).toNatClampNeg), .int (xs (0 + 3 : Int32).toNatClampNeg)]) (rest := [.int r]) (sh := shM) (ad := pM) hx hb hml hown hts lw_in hN hK hAM mokM_32 rfl (ai_sound l hdM ckM mokM 7 32 _ rfl _ _ _ _ c2) (List.mem_of_getElem? (i := 958) (by decide +kernel)) rfl (Nat.le_of_ble_eq_true rfl) (Nat.le_of_ble_eq_true rfl) (Nat.le_of_ble_eq_true rfl) (Nat.le_of_ble_eq_true rfl) hl.1 (Nat.le_of_ble_eq_true rfl) hPM1 hS d_law_155 (fun H1 locs hk hS => ?_)
  refine lv_icmp_eq (tgt := 684) hx hb d_law_158 (by decide) (fun _ => ?_) (fun h => absurd rfl h)
  exact lw_next rfl C0 hS hl
set_option maxHeartbeats 4000000 in
set_option maxRecDepth 20000 in
/-- variable -/
theorem lw_c1 {p : Program} {e : Env} {s : State} {m : MethodId} {below : List Frame} {meth : Method} {c : Code} (l : Launch) {b : Nat} {xs : Nat → Int32} {D : va_G} {cA : Bool → ClassId} {pC pM : Nat → Nat} {xC xM : ai_H} {H : Heap} {locs : List Loc} {ls : Array Slot} (C0 : lw_At p s m meth c b 4 xs) (St : lw_St s b D cA pC pM xC xM H locs ls) :
    W p l e room_1 s m #[Value.ref b] below meth c H locs 72 102720 (lw_Z below #[Value.ref b] s) (F0 m 163 ls []) := by
  obtain ⟨hx, hb, hr, hml, hown, hts, hX, hbl, hlocks, hgv⟩ := id C0
  obtain ⟨hPC, hPM, hdC, hdM, hAC, hAM, hgC, hgM, hS, hl, hK, hN⟩ := St
  have hbA : ¬ (fun q : Nat => s.heap.size ≤ q) b := Nat.not_le.mpr hbl
  obtain ⟨r, h2, h3, c1, c2⟩ := sa_1 hgC hgM (xs (0 + 1 : Int32).toNatClampNeg) (xs (0 + 2 : Int32).toNatClampNeg)
  refine lv_aload_n hx hb d_law_163 rfl (lv_at hl 2 rfl) ?_
  refine lv_aload_n hx hb d_law_164 rfl (lv_at hl 3 rfl) ?_
  refine lv_iload_n hx hb d_law_165 rfl (lv_at hl 0 rfl) ?_
  refine lv_iconst (v := 1) hx hb d_law_166 (by decide +kernel) ?_
  refine lv_iadd hx hb d_law_167 ?_
  refine va_sld hx hb hX hbl hbA hS lw_v1 d_law_168 ?_
  refine lv_aload_n hx hb d_law_169 rfl (lv_at hl 3 rfl) ?_
  refine lv_iload_n hx hb d_law_170 rfl (lv_at hl 0 rfl) ?_
  refine lv_iconst (v := 2) hx hb d_law_171 (by decide +kernel) ?_
  refine lv_iadd hx hb d_law_172 ?_
  refine va_sld hx hb hX hbl hbA hS lw_v2 d_law_173 ?_
  refine lw_call (y := yX7_variable) (yb := cX7_variable) (yn := 4) (yt := some .int) (ci := 7) (na := 2) (d := 7) (k := 29) (ix := 18) (As := [.int (xs (0 + 1 : Int32).toNatClampNeg), .int (xs (0 + 2 : Int32).toNatClampNeg)]) (rest := []) (sh := shC) (ad := pC) hx hb hml hown hts lw_in hN hK hAC mokC_79 rfl (ai_sound l hdC ckC mokC 7 79 _ rfl _ _ _ _ c1) (List.mem_of_getElem? (i := 343) (by decide +kernel)) rfl (Nat.le_of_ble_eq_true rfl) (Nat.le_of_ble_eq_true rfl) (Nat.le_of_ble_eq_true rfl) (Nat.le_of_ble_eq_true rfl) hl.1 (Nat.le_of_ble_eq_true rfl) hPC hS d_law_174 (fun H1 locs hk hS => ?_)
  have hPM1 := hPM H1 hk
  refine lv_aload_n hx hb d_law_177 rfl (lv_at hl 1 rfl) ?_
  refine lv_aload_n hx hb d_law_178 rfl (lv_at hl 3 rfl) ?_
  refine lv_iload_n hx hb d_law_179 rfl (lv_at hl 0 rfl) ?_
  refine lv_iconst (v := 1) hx hb d_law_180 (by decide +kernel) ?_
  refine lv_iadd hx hb d_law_181 ?_
  refine va_sld hx hb hX hbl hbA hS lw_v1 d_law_182 ?_
  refine lv_aload_n hx hb d_law_183 rfl (lv_at hl 3 rfl) ?_
  refine lv_iload_n hx hb d_law_184 rfl (lv_at hl 0 rfl) ?_
  refine lv_iconst (v := 2) hx hb d_law_185 (by decide +kernel) ?_
  refine lv_iadd hx hb d_law_186 ?_
  refine va_sld hx hb hX hbl hbA hS lw_v2 d_law_187 ?_
  refine lw_call (y := yX8_variable) (yb := cX8_variable) (yn := 4) (yt := some .int) (ci := 8) (na := 2) (d := 7) (k := 0) (ix := 22) (As := [.int (xs (0 + 1 : Int32).toNatClampNeg), .int (xs (0 + 2 : Int32).toNatClampNeg)]) (rest := [.int r]) (sh := shM) (ad := pM) hx hb hml hown hts lw_in hN hK hAM mokM_33 rfl (ai_sound l hdM ckM mokM 7 33 _ rfl _ _ _ _ c2) (List.mem_of_getElem? (i := 973) (by decide +kernel)) rfl (Nat.le_of_ble_eq_true rfl) (Nat.le_of_ble_eq_true rfl) (Nat.le_of_ble_eq_true rfl) (Nat.le_of_ble_eq_true rfl) hl.1 (Nat.le_of_ble_eq_true rfl) hPM1 hS d_law_188 (fun H1 locs hk hS => ?_)
  refine lv_icmp_eq (tgt := 684) hx hb d_law_191 (by decide) (fun _ => ?_) (fun h => absurd rfl h)
  exact lw_next rfl C0 hS hl
set_option maxHeartbeats 4000000 in
set_option maxRecDepth 20000 in
/-- bound -/
theorem lw_c2 {p : Program} {e : Env} {s : State} {m : MethodId} {below : List Frame} {meth : Method} {c : Code} (l : Launch) {b : Nat} {xs : Nat → Int32} {D : va_G} {cA : Bool → ClassId} {pC pM : Nat → Nat} {xC xM : ai_H} {H : Heap} {locs : List Loc} {ls : Array Slot} (C0 : lw_At p s m meth c b 4 xs) (St : lw_St s b D cA pC pM xC xM H locs ls) :
    W p l e room_1 s m #[Value.ref b] below meth c H locs 72 102720 (lw_Z below #[Value.ref b] s) (F0 m 196 ls []) := by
  obtain ⟨hx, hb, hr, hml, hown, hts, hX, hbl, hlocks, hgv⟩ := id C0
  obtain ⟨hPC, hPM, hdC, hdM, hAC, hAM, hgC, hgM, hS, hl, hK, hN⟩ := St
  have hbA : ¬ (fun q : Nat => s.heap.size ≤ q) b := Nat.not_le.mpr hbl
  obtain ⟨r, h2, h3, c1, c2⟩ := sa_2 hgC hgM (xs (0 + 1 : Int32).toNatClampNeg) (xs (0 + 2 : Int32).toNatClampNeg) (xs (0 + 3 : Int32).toNatClampNeg)
  refine lv_aload_n hx hb d_law_196 rfl (lv_at hl 2 rfl) ?_
  refine lv_aload_n hx hb d_law_197 rfl (lv_at hl 3 rfl) ?_
  refine lv_iload_n hx hb d_law_198 rfl (lv_at hl 0 rfl) ?_
  refine lv_iconst (v := 1) hx hb d_law_199 (by decide +kernel) ?_
  refine lv_iadd hx hb d_law_200 ?_
  refine va_sld hx hb hX hbl hbA hS lw_v1 d_law_201 ?_
  refine lv_aload_n hx hb d_law_202 rfl (lv_at hl 3 rfl) ?_
  refine lv_iload_n hx hb d_law_203 rfl (lv_at hl 0 rfl) ?_
  refine lv_iconst (v := 2) hx hb d_law_204 (by decide +kernel) ?_
  refine lv_iadd hx hb d_law_205 ?_
  refine va_sld hx hb hX hbl hbA hS lw_v2 d_law_206 ?_
  refine lv_aload_n hx hb d_law_207 rfl (lv_at hl 3 rfl) ?_
  refine lv_iload_n hx hb d_law_208 rfl (lv_at hl 0 rfl) ?_
  refine lv_iconst (v := 3) hx hb d_law_209 (by decide +kernel) ?_
  refine lv_iadd hx hb d_law_210 ?_
  refine va_sld hx hb hX hbl hbA hS lw_v3 d_law_211 ?_
  refine lw_call (y := yX7_bound) (yb := cX7_bound) (yn := 5) (yt := some .int) (ci := 7) (na := 3) (d := 7) (k := 29) (ix := 23) (As := [.int (xs (0 + 1 : Int32).toNatClampNeg), .int (xs (0 + 2 : Int32).toNatClampNeg), .int (xs (0 + 3 : Int32).toNatClampNeg)]) (rest := []) (sh := shC) (ad := pC) hx hb hml hown hts lw_in hN hK hAC mokC_80 rfl (ai_sound l hdC ckC mokC 7 80 _ rfl _ _ _ _ c1) (List.mem_of_getElem? (i := 355) (by decide +kernel)) rfl (Nat.le_of_ble_eq_true rfl) (Nat.le_of_ble_eq_true rfl) (Nat.le_of_ble_eq_true rfl) (Nat.le_of_ble_eq_true rfl) hl.1 (Nat.le_of_ble_eq_true rfl) hPC hS d_law_212 (fun H1 locs hk hS => ?_)
  have hPM1 := hPM H1 hk
  refine lv_aload_n hx hb d_law_215 rfl (lv_at hl 1 rfl) ?_
  refine lv_aload_n hx hb d_law_216 rfl (lv_at hl 3 rfl) ?_
  refine lv_iload_n hx hb d_law_217 rfl (lv_at hl 0 rfl) ?_
  refine lv_iconst (v := 1) hx hb d_law_218 (by decide +kernel) ?_
  refine lv_iadd hx hb d_law_219 ?_
  refine va_sld hx hb hX hbl hbA hS lw_v1 d_law_220 ?_
  refine lv_aload_n hx hb d_law_221 rfl (lv_at hl 3 rfl) ?_
  refine lv_iload_n hx hb d_law_222 rfl (lv_at hl 0 rfl) ?_
  refine lv_iconst (v := 2) hx hb d_law_223 (by decide +kernel) ?_
  refine lv_iadd hx hb d_law_224 ?_
  refine va_sld hx hb hX hbl hbA hS lw_v2 d_law_225 ?_
  refine lv_aload_n hx hb d_law_226 rfl (lv_at hl 3 rfl) ?_
  refine lv_iload_n hx hb d_law_227 rfl (lv_at hl 0 rfl) ?_
  refine lv_iconst (v := 3) hx hb d_law_228 (by decide +kernel) ?_
  refine lv_iadd hx hb d_law_229 ?_
  refine va_sld hx hb hX hbl hbA hS lw_v3 d_law_230 ?_
  refine lw_call (y := yX8_bound) (yb := cX8_bound) (yn := 6) (yt := some .int) (ci := 8) (na := 3) (d := 7) (k := 0) (ix := 26) (As := [.int (xs (0 + 1 : Int32).toNatClampNeg), .int (xs (0 + 2 : Int32).toNatClampNeg), .int (xs (0 + 3 : Int32).toNatClampNeg)]) (rest := [.int r]) (sh := shM) (ad := pM) hx hb hml hown hts lw_in hN hK hAM mokM_35 rfl (ai_sound l hdM ckM mokM 7 35 _ rfl _ _ _ _ c2) (List.mem_of_getElem? (i := 985) (by decide +kernel)) rfl (Nat.le_of_ble_eq_true rfl) (Nat.le_of_ble_eq_true rfl) (Nat.le_of_ble_eq_true rfl) (Nat.le_of_ble_eq_true rfl) hl.1 (Nat.le_of_ble_eq_true rfl) hPM1 hS d_law_231 (fun H1 locs hk hS => ?_)
  refine lv_icmp_eq (tgt := 684) hx hb d_law_234 (by decide) (fun _ => ?_) (fun h => absurd rfl h)
  exact lw_next rfl C0 hS hl
set_option maxHeartbeats 4000000 in
set_option maxRecDepth 20000 in
/-- parent -/
theorem lw_c3 {p : Program} {e : Env} {s : State} {m : MethodId} {below : List Frame} {meth : Method} {c : Code} (l : Launch) {b : Nat} {xs : Nat → Int32} {D : va_G} {cA : Bool → ClassId} {pC pM : Nat → Nat} {xC xM : ai_H} {H : Heap} {locs : List Loc} {ls : Array Slot} (C0 : lw_At p s m meth c b 4 xs) (St : lw_St s b D cA pC pM xC xM H locs ls) :
    W p l e room_1 s m #[Value.ref b] below meth c H locs 72 102720 (lw_Z below #[Value.ref b] s) (F0 m 239 ls []) := by
  obtain ⟨hx, hb, hr, hml, hown, hts, hX, hbl, hlocks, hgv⟩ := id C0
  obtain ⟨hPC, hPM, hdC, hdM, hAC, hAM, hgC, hgM, hS, hl, hK, hN⟩ := St
  have hbA : ¬ (fun q : Nat => s.heap.size ≤ q) b := Nat.not_le.mpr hbl
  obtain ⟨r, h2, h3, c1, c2⟩ := sa_3 hgC hgM (xs (0 + 1 : Int32).toNatClampNeg) (xs (0 + 2 : Int32).toNatClampNeg)
  refine lv_aload_n hx hb d_law_239 rfl (lv_at hl 2 rfl) ?_
  refine lv_aload_n hx hb d_law_240 rfl (lv_at hl 3 rfl) ?_
  refine lv_iload_n hx hb d_law_241 rfl (lv_at hl 0 rfl) ?_
  refine lv_iconst (v := 1) hx hb d_law_242 (by decide +kernel) ?_
  refine lv_iadd hx hb d_law_243 ?_
  refine va_sld hx hb hX hbl hbA hS lw_v1 d_law_244 ?_
  refine lv_aload_n hx hb d_law_245 rfl (lv_at hl 3 rfl) ?_
  refine lv_iload_n hx hb d_law_246 rfl (lv_at hl 0 rfl) ?_
  refine lv_iconst (v := 2) hx hb d_law_247 (by decide +kernel) ?_
  refine lv_iadd hx hb d_law_248 ?_
  refine va_sld hx hb hX hbl hbA hS lw_v2 d_law_249 ?_
  refine lw_call (y := yX7_parent) (yb := cX7_parent) (yn := 4) (yt := some .int) (ci := 7) (na := 2) (d := 7) (k := 29) (ix := 27) (As := [.int (xs (0 + 1 : Int32).toNatClampNeg), .int (xs (0 + 2 : Int32).toNatClampNeg)]) (rest := []) (sh := shC) (ad := pC) hx hb hml hown hts lw_in hN hK hAC mokC_81 rfl (ai_sound l hdC ckC mokC 7 81 _ rfl _ _ _ _ c1) (List.mem_of_getElem? (i := 427) (by decide +kernel)) rfl (Nat.le_of_ble_eq_true rfl) (Nat.le_of_ble_eq_true rfl) (Nat.le_of_ble_eq_true rfl) (Nat.le_of_ble_eq_true rfl) hl.1 (Nat.le_of_ble_eq_true rfl) hPC hS d_law_250 (fun H1 locs hk hS => ?_)
  have hPM1 := hPM H1 hk
  refine lv_aload_n hx hb d_law_253 rfl (lv_at hl 1 rfl) ?_
  refine lv_aload_n hx hb d_law_254 rfl (lv_at hl 3 rfl) ?_
  refine lv_iload_n hx hb d_law_255 rfl (lv_at hl 0 rfl) ?_
  refine lv_iconst (v := 1) hx hb d_law_256 (by decide +kernel) ?_
  refine lv_iadd hx hb d_law_257 ?_
  refine va_sld hx hb hX hbl hbA hS lw_v1 d_law_258 ?_
  refine lv_aload_n hx hb d_law_259 rfl (lv_at hl 3 rfl) ?_
  refine lv_iload_n hx hb d_law_260 rfl (lv_at hl 0 rfl) ?_
  refine lv_iconst (v := 2) hx hb d_law_261 (by decide +kernel) ?_
  refine lv_iadd hx hb d_law_262 ?_
  refine va_sld hx hb hX hbl hbA hS lw_v2 d_law_263 ?_
  refine lw_call (y := yX8_parent) (yb := cX8_parent) (yn := 3) (yt := some .int) (ci := 8) (na := 2) (d := 7) (k := 0) (ix := 30) (As := [.int (xs (0 + 1 : Int32).toNatClampNeg), .int (xs (0 + 2 : Int32).toNatClampNeg)]) (rest := [.int r]) (sh := shM) (ad := pM) hx hb hml hown hts lw_in hN hK hAM mokM_37 rfl (ai_sound l hdM ckM mokM 7 37 _ rfl _ _ _ _ c2) (List.mem_of_getElem? (i := 1013) (by decide +kernel)) rfl (Nat.le_of_ble_eq_true rfl) (Nat.le_of_ble_eq_true rfl) (Nat.le_of_ble_eq_true rfl) (Nat.le_of_ble_eq_true rfl) hl.1 (Nat.le_of_ble_eq_true rfl) hPM1 hS d_law_264 (fun H1 locs hk hS => ?_)
  refine lv_icmp_eq (tgt := 684) hx hb d_law_267 (by decide) (fun _ => ?_) (fun h => absurd rfl h)
  exact lw_next rfl C0 hS hl
set_option maxHeartbeats 4000000 in
set_option maxRecDepth 20000 in
/-- argument -/
theorem lw_c4 {p : Program} {e : Env} {s : State} {m : MethodId} {below : List Frame} {meth : Method} {c : Code} (l : Launch) {b : Nat} {xs : Nat → Int32} {D : va_G} {cA : Bool → ClassId} {pC pM : Nat → Nat} {xC xM : ai_H} {H : Heap} {locs : List Loc} {ls : Array Slot} (C0 : lw_At p s m meth c b 4 xs) (St : lw_St s b D cA pC pM xC xM H locs ls) :
    W p l e room_1 s m #[Value.ref b] below meth c H locs 72 102720 (lw_Z below #[Value.ref b] s) (F0 m 272 ls []) := by
  obtain ⟨hx, hb, hr, hml, hown, hts, hX, hbl, hlocks, hgv⟩ := id C0
  obtain ⟨hPC, hPM, hdC, hdM, hAC, hAM, hgC, hgM, hS, hl, hK, hN⟩ := St
  have hbA : ¬ (fun q : Nat => s.heap.size ≤ q) b := Nat.not_le.mpr hbl
  obtain ⟨r, h2, h3, c1, c2⟩ := sa_4 hgC hgM (xs (0 + 1 : Int32).toNatClampNeg) (xs (0 + 2 : Int32).toNatClampNeg)
  refine lv_aload_n hx hb d_law_272 rfl (lv_at hl 2 rfl) ?_
  refine lv_aload_n hx hb d_law_273 rfl (lv_at hl 3 rfl) ?_
  refine lv_iload_n hx hb d_law_274 rfl (lv_at hl 0 rfl) ?_
  refine lv_iconst (v := 1) hx hb d_law_275 (by decide +kernel) ?_
  refine lv_iadd hx hb d_law_276 ?_
  refine va_sld hx hb hX hbl hbA hS lw_v1 d_law_277 ?_
  refine lv_aload_n hx hb d_law_278 rfl (lv_at hl 3 rfl) ?_
  refine lv_iload_n hx hb d_law_279 rfl (lv_at hl 0 rfl) ?_
  refine lv_iconst (v := 2) hx hb d_law_280 (by decide +kernel) ?_
  refine lv_iadd hx hb d_law_281 ?_
  refine va_sld hx hb hX hbl hbA hS lw_v2 d_law_282 ?_
  refine lw_call (y := yX7_argument) (yb := cX7_argument) (yn := 3) (yt := some .int) (ci := 7) (na := 2) (d := 7) (k := 29) (ix := 31) (As := [.int (xs (0 + 1 : Int32).toNatClampNeg), .int (xs (0 + 2 : Int32).toNatClampNeg)]) (rest := []) (sh := shC) (ad := pC) hx hb hml hown hts lw_in hN hK hAC mokC_82 rfl (ai_sound l hdC ckC mokC 7 82 _ rfl _ _ _ _ c1) (List.mem_of_getElem? (i := 449) (by decide +kernel)) rfl (Nat.le_of_ble_eq_true rfl) (Nat.le_of_ble_eq_true rfl) (Nat.le_of_ble_eq_true rfl) (Nat.le_of_ble_eq_true rfl) hl.1 (Nat.le_of_ble_eq_true rfl) hPC hS d_law_283 (fun H1 locs hk hS => ?_)
  have hPM1 := hPM H1 hk
  refine lv_aload_n hx hb d_law_286 rfl (lv_at hl 1 rfl) ?_
  refine lv_aload_n hx hb d_law_287 rfl (lv_at hl 3 rfl) ?_
  refine lv_iload_n hx hb d_law_288 rfl (lv_at hl 0 rfl) ?_
  refine lv_iconst (v := 1) hx hb d_law_289 (by decide +kernel) ?_
  refine lv_iadd hx hb d_law_290 ?_
  refine va_sld hx hb hX hbl hbA hS lw_v1 d_law_291 ?_
  refine lv_aload_n hx hb d_law_292 rfl (lv_at hl 3 rfl) ?_
  refine lv_iload_n hx hb d_law_293 rfl (lv_at hl 0 rfl) ?_
  refine lv_iconst (v := 2) hx hb d_law_294 (by decide +kernel) ?_
  refine lv_iadd hx hb d_law_295 ?_
  refine va_sld hx hb hX hbl hbA hS lw_v2 d_law_296 ?_
  refine lw_call (y := yX8_argument) (yb := cX8_argument) (yn := 3) (yt := some .int) (ci := 8) (na := 2) (d := 7) (k := 0) (ix := 34) (As := [.int (xs (0 + 1 : Int32).toNatClampNeg), .int (xs (0 + 2 : Int32).toNatClampNeg)]) (rest := [.int r]) (sh := shM) (ad := pM) hx hb hml hown hts lw_in hN hK hAM mokM_38 rfl (ai_sound l hdM ckM mokM 7 38 _ rfl _ _ _ _ c2) (List.mem_of_getElem? (i := 1017) (by decide +kernel)) rfl (Nat.le_of_ble_eq_true rfl) (Nat.le_of_ble_eq_true rfl) (Nat.le_of_ble_eq_true rfl) (Nat.le_of_ble_eq_true rfl) hl.1 (Nat.le_of_ble_eq_true rfl) hPM1 hS d_law_297 (fun H1 locs hk hS => ?_)
  refine lv_icmp_eq (tgt := 684) hx hb d_law_300 (by decide) (fun _ => ?_) (fun h => absurd rfl h)
  exact lw_next rfl C0 hS hl
set_option maxHeartbeats 4000000 in
set_option maxRecDepth 20000 in
/-- make -/
theorem lw_c5 {p : Program} {e : Env} {s : State} {m : MethodId} {below : List Frame} {meth : Method} {c : Code} (l : Launch) {b : Nat} {xs : Nat → Int32} {D : va_G} {cA : Bool → ClassId} {pC pM : Nat → Nat} {xC xM : ai_H} {H : Heap} {locs : List Loc} {ls : Array Slot} (C0 : lw_At p s m meth c b 4 xs) (St : lw_St s b D cA pC pM xC xM H locs ls) :
    W p l e room_1 s m #[Value.ref b] below meth c H locs 72 102720 (lw_Z below #[Value.ref b] s) (F0 m 305 ls []) := by
  obtain ⟨hx, hb, hr, hml, hown, hts, hX, hbl, hlocks, hgv⟩ := id C0
  obtain ⟨hPC, hPM, hdC, hdM, hAC, hAM, hgC, hgM, hS, hl, hK, hN⟩ := St
  have hbA : ¬ (fun q : Nat => s.heap.size ≤ q) b := Nat.not_le.mpr hbl
  obtain ⟨r, h2, h3, c1, c2⟩ := sa_5 hgC hgM (xs (0 + 1 : Int32).toNatClampNeg) (xs (0 + 2 : Int32).toNatClampNeg)
  refine lv_aload_n hx hb d_law_305 rfl (lv_at hl 2 rfl) ?_
  refine lv_aload_n hx hb d_law_306 rfl (lv_at hl 3 rfl) ?_
  refine lv_iload_n hx hb d_law_307 rfl (lv_at hl 0 rfl) ?_
  refine lv_iconst (v := 1) hx hb d_law_308 (by decide +kernel) ?_
  refine lv_iadd hx hb d_law_309 ?_
  refine va_sld hx hb hX hbl hbA hS lw_v1 d_law_310 ?_
  refine lv_aload_n hx hb d_law_311 rfl (lv_at hl 3 rfl) ?_
  refine lv_iload_n hx hb d_law_312 rfl (lv_at hl 0 rfl) ?_
  refine lv_iconst (v := 2) hx hb d_law_313 (by decide +kernel) ?_
  refine lv_iadd hx hb d_law_314 ?_
  refine va_sld hx hb hX hbl hbA hS lw_v2 d_law_315 ?_
  refine lw_call (y := yX7_make) (yb := cX7_make) (yn := 7) (yt := some .int) (ci := 7) (na := 2) (d := 7) (k := 29) (ix := 35) (As := [.int (xs (0 + 1 : Int32).toNatClampNeg), .int (xs (0 + 2 : Int32).toNatClampNeg)]) (rest := []) (sh := shC) (ad := pC) hx hb hml hown hts lw_in hN hK hAC mokC_83 rfl (ai_sound l hdC ckC mokC 7 83 _ rfl _ _ _ _ c1) (List.mem_of_getElem? (i := 461) (by decide +kernel)) rfl (Nat.le_of_ble_eq_true rfl) (Nat.le_of_ble_eq_true rfl) (Nat.le_of_ble_eq_true rfl) (Nat.le_of_ble_eq_true rfl) hl.1 (Nat.le_of_ble_eq_true rfl) hPC hS d_law_316 (fun H1 locs hk hS => ?_)
  have hPM1 := hPM H1 hk
  refine lv_aload_n hx hb d_law_319 rfl (lv_at hl 1 rfl) ?_
  refine lv_aload_n hx hb d_law_320 rfl (lv_at hl 3 rfl) ?_
  refine lv_iload_n hx hb d_law_321 rfl (lv_at hl 0 rfl) ?_
  refine lv_iconst (v := 1) hx hb d_law_322 (by decide +kernel) ?_
  refine lv_iadd hx hb d_law_323 ?_
  refine va_sld hx hb hX hbl hbA hS lw_v1 d_law_324 ?_
  refine lv_aload_n hx hb d_law_325 rfl (lv_at hl 3 rfl) ?_
  refine lv_iload_n hx hb d_law_326 rfl (lv_at hl 0 rfl) ?_
  refine lv_iconst (v := 2) hx hb d_law_327 (by decide +kernel) ?_
  refine lv_iadd hx hb d_law_328 ?_
  refine va_sld hx hb hX hbl hbA hS lw_v2 d_law_329 ?_
  refine lw_call (y := yX8_make) (yb := cX8_make) (yn := 5) (yt := some .int) (ci := 8) (na := 2) (d := 7) (k := 0) (ix := 38) (As := [.int (xs (0 + 1 : Int32).toNatClampNeg), .int (xs (0 + 2 : Int32).toNatClampNeg)]) (rest := [.int r]) (sh := shM) (ad := pM) hx hb hml hown hts lw_in hN hK hAM mokM_40 rfl (ai_sound l hdM ckM mokM 7 40 _ rfl _ _ _ _ c2) (List.mem_of_getElem? (i := 1025) (by decide +kernel)) rfl (Nat.le_of_ble_eq_true rfl) (Nat.le_of_ble_eq_true rfl) (Nat.le_of_ble_eq_true rfl) (Nat.le_of_ble_eq_true rfl) hl.1 (Nat.le_of_ble_eq_true rfl) hPM1 hS d_law_330 (fun H1 locs hk hS => ?_)
  refine lv_icmp_eq (tgt := 684) hx hb d_law_333 (by decide) (fun _ => ?_) (fun h => absurd rfl h)
  exact lw_next rfl C0 hS hl
set_option maxHeartbeats 4000000 in
set_option maxRecDepth 20000 in
/-- array -/
theorem lw_c6 {p : Program} {e : Env} {s : State} {m : MethodId} {below : List Frame} {meth : Method} {c : Code} (l : Launch) {b : Nat} {xs : Nat → Int32} {D : va_G} {cA : Bool → ClassId} {pC pM : Nat → Nat} {xC xM : ai_H} {H : Heap} {locs : List Loc} {ls : Array Slot} (C0 : lw_At p s m meth c b 4 xs) (St : lw_St s b D cA pC pM xC xM H locs ls) :
    W p l e room_1 s m #[Value.ref b] below meth c H locs 72 102720 (lw_Z below #[Value.ref b] s) (F0 m 338 ls []) := by
  obtain ⟨hx, hb, hr, hml, hown, hts, hX, hbl, hlocks, hgv⟩ := id C0
  obtain ⟨hPC, hPM, hdC, hdM, hAC, hAM, hgC, hgM, hS, hl, hK, hN⟩ := St
  have hbA : ¬ (fun q : Nat => s.heap.size ≤ q) b := Nat.not_le.mpr hbl
  obtain ⟨r, h2, h3, c1, c2⟩ := sa_6 hgC hgM (xs (0 + 1 : Int32).toNatClampNeg)
  refine lv_aload_n hx hb d_law_338 rfl (lv_at hl 2 rfl) ?_
  refine lv_aload_n hx hb d_law_339 rfl (lv_at hl 3 rfl) ?_
  refine lv_iload_n hx hb d_law_340 rfl (lv_at hl 0 rfl) ?_
  refine lv_iconst (v := 1) hx hb d_law_341 (by decide +kernel) ?_
  refine lv_iadd hx hb d_law_342 ?_
  refine va_sld hx hb hX hbl hbA hS lw_v1 d_law_343 ?_
  refine lw_call (y := yX7_array) (yb := cX7_array) (yn := 2) (yt := some .int) (ci := 7) (na := 1) (d := 7) (k := 29) (ix := 39) (As := [.int (xs (0 + 1 : Int32).toNatClampNeg)]) (rest := []) (sh := shC) (ad := pC) hx hb hml hown hts lw_in hN hK hAC mokC_84 rfl (ai_sound l hdC ckC mokC 7 84 _ rfl _ _ _ _ c1) (List.mem_of_getElem? (i := 615) (by decide +kernel)) rfl (Nat.le_of_ble_eq_true rfl) (Nat.le_of_ble_eq_true rfl) (Nat.le_of_ble_eq_true rfl) (Nat.le_of_ble_eq_true rfl) hl.1 (Nat.le_of_ble_eq_true rfl) hPC hS d_law_344 (fun H1 locs hk hS => ?_)
  have hPM1 := hPM H1 hk
  refine lv_aload_n hx hb d_law_347 rfl (lv_at hl 1 rfl) ?_
  refine lv_aload_n hx hb d_law_348 rfl (lv_at hl 3 rfl) ?_
  refine lv_iload_n hx hb d_law_349 rfl (lv_at hl 0 rfl) ?_
  refine lv_iconst (v := 1) hx hb d_law_350 (by decide +kernel) ?_
  refine lv_iadd hx hb d_law_351 ?_
  refine va_sld hx hb hX hbl hbA hS lw_v1 d_law_352 ?_
  refine lw_call (y := yX8_array) (yb := cX8_array) (yn := 2) (yt := some .int) (ci := 8) (na := 1) (d := 7) (k := 0) (ix := 43) (As := [.int (xs (0 + 1 : Int32).toNatClampNeg)]) (rest := [.int r]) (sh := shM) (ad := pM) hx hb hml hown hts lw_in hN hK hAM mokM_41 rfl (ai_sound l hdM ckM mokM 7 41 _ rfl _ _ _ _ c2) (List.mem_of_getElem? (i := 1120) (by decide +kernel)) rfl (Nat.le_of_ble_eq_true rfl) (Nat.le_of_ble_eq_true rfl) (Nat.le_of_ble_eq_true rfl) (Nat.le_of_ble_eq_true rfl) hl.1 (Nat.le_of_ble_eq_true rfl) hPM1 hS d_law_353 (fun H1 locs hk hS => ?_)
  refine lv_icmp_eq (tgt := 684) hx hb d_law_356 (by decide) (fun _ => ?_) (fun h => absurd rfl h)
  exact lw_next rfl C0 hS hl
set_option maxHeartbeats 4000000 in
set_option maxRecDepth 20000 in
/-- about -/
theorem lw_c7 {p : Program} {e : Env} {s : State} {m : MethodId} {below : List Frame} {meth : Method} {c : Code} (l : Launch) {b : Nat} {xs : Nat → Int32} {D : va_G} {cA : Bool → ClassId} {pC pM : Nat → Nat} {xC xM : ai_H} {H : Heap} {locs : List Loc} {ls : Array Slot} (C0 : lw_At p s m meth c b 4 xs) (St : lw_St s b D cA pC pM xC xM H locs ls) :
    W p l e room_1 s m #[Value.ref b] below meth c H locs 72 102720 (lw_Z below #[Value.ref b] s) (F0 m 361 ls []) := by
  obtain ⟨hx, hb, hr, hml, hown, hts, hX, hbl, hlocks, hgv⟩ := id C0
  obtain ⟨hPC, hPM, hdC, hdM, hAC, hAM, hgC, hgM, hS, hl, hK, hN⟩ := St
  have hbA : ¬ (fun q : Nat => s.heap.size ≤ q) b := Nat.not_le.mpr hbl
  obtain ⟨r, h2, h3, c1, c2⟩ := sa_7 hgC hgM (xs (0 + 1 : Int32).toNatClampNeg) (xs (0 + 2 : Int32).toNatClampNeg)
  refine lv_aload_n hx hb d_law_361 rfl (lv_at hl 2 rfl) ?_
  refine lv_aload_n hx hb d_law_362 rfl (lv_at hl 3 rfl) ?_
  refine lv_iload_n hx hb d_law_363 rfl (lv_at hl 0 rfl) ?_
  refine lv_iconst (v := 1) hx hb d_law_364 (by decide +kernel) ?_
  refine lv_iadd hx hb d_law_365 ?_
  refine va_sld hx hb hX hbl hbA hS lw_v1 d_law_366 ?_
  refine lv_aload_n hx hb d_law_367 rfl (lv_at hl 3 rfl) ?_
  refine lv_iload_n hx hb d_law_368 rfl (lv_at hl 0 rfl) ?_
  refine lv_iconst (v := 2) hx hb d_law_369 (by decide +kernel) ?_
  refine lv_iadd hx hb d_law_370 ?_
  refine va_sld hx hb hX hbl hbA hS lw_v2 d_law_371 ?_
  refine lw_call (y := yX7_about) (yb := cX7_about) (yn := 3) (yt := some .int) (ci := 7) (na := 2) (d := 7) (k := 29) (ix := 44) (As := [.int (xs (0 + 1 : Int32).toNatClampNeg), .int (xs (0 + 2 : Int32).toNatClampNeg)]) (rest := []) (sh := shC) (ad := pC) hx hb hml hown hts lw_in hN hK hAC mokC_85 rfl (ai_sound l hdC ckC mokC 7 85 _ rfl _ _ _ _ c1) (List.mem_of_getElem? (i := 623) (by decide +kernel)) rfl (Nat.le_of_ble_eq_true rfl) (Nat.le_of_ble_eq_true rfl) (Nat.le_of_ble_eq_true rfl) (Nat.le_of_ble_eq_true rfl) hl.1 (Nat.le_of_ble_eq_true rfl) hPC hS d_law_372 (fun H1 locs hk hS => ?_)
  have hPM1 := hPM H1 hk
  refine lv_aload_n hx hb d_law_375 rfl (lv_at hl 1 rfl) ?_
  refine lv_aload_n hx hb d_law_376 rfl (lv_at hl 3 rfl) ?_
  refine lv_iload_n hx hb d_law_377 rfl (lv_at hl 0 rfl) ?_
  refine lv_iconst (v := 1) hx hb d_law_378 (by decide +kernel) ?_
  refine lv_iadd hx hb d_law_379 ?_
  refine va_sld hx hb hX hbl hbA hS lw_v1 d_law_380 ?_
  refine lv_aload_n hx hb d_law_381 rfl (lv_at hl 3 rfl) ?_
  refine lv_iload_n hx hb d_law_382 rfl (lv_at hl 0 rfl) ?_
  refine lv_iconst (v := 2) hx hb d_law_383 (by decide +kernel) ?_
  refine lv_iadd hx hb d_law_384 ?_
  refine va_sld hx hb hX hbl hbA hS lw_v2 d_law_385 ?_
  refine lw_call (y := yX8_about) (yb := cX8_about) (yn := 5) (yt := some .int) (ci := 8) (na := 2) (d := 7) (k := 0) (ix := 47) (As := [.int (xs (0 + 1 : Int32).toNatClampNeg), .int (xs (0 + 2 : Int32).toNatClampNeg)]) (rest := [.int r]) (sh := shM) (ad := pM) hx hb hml hown hts lw_in hN hK hAM mokM_42 rfl (ai_sound l hdM ckM mokM 7 42 _ rfl _ _ _ _ c2) (List.mem_of_getElem? (i := 1124) (by decide +kernel)) rfl (Nat.le_of_ble_eq_true rfl) (Nat.le_of_ble_eq_true rfl) (Nat.le_of_ble_eq_true rfl) (Nat.le_of_ble_eq_true rfl) hl.1 (Nat.le_of_ble_eq_true rfl) hPM1 hS d_law_386 (fun H1 locs hk hS => ?_)
  refine lv_icmp_eq (tgt := 684) hx hb d_law_389 (by decide) (fun _ => ?_) (fun h => absurd rfl h)
  exact lw_next rfl C0 hS hl
set_option maxHeartbeats 4000000 in
set_option maxRecDepth 20000 in
/-- below -/
theorem lw_c8 {p : Program} {e : Env} {s : State} {m : MethodId} {below : List Frame} {meth : Method} {c : Code} (l : Launch) {b : Nat} {xs : Nat → Int32} {D : va_G} {cA : Bool → ClassId} {pC pM : Nat → Nat} {xC xM : ai_H} {H : Heap} {locs : List Loc} {ls : Array Slot} (C0 : lw_At p s m meth c b 4 xs) (St : lw_St s b D cA pC pM xC xM H locs ls) :
    W p l e room_1 s m #[Value.ref b] below meth c H locs 72 102720 (lw_Z below #[Value.ref b] s) (F0 m 394 ls []) := by
  obtain ⟨hx, hb, hr, hml, hown, hts, hX, hbl, hlocks, hgv⟩ := id C0
  obtain ⟨hPC, hPM, hdC, hdM, hAC, hAM, hgC, hgM, hS, hl, hK, hN⟩ := St
  have hbA : ¬ (fun q : Nat => s.heap.size ≤ q) b := Nat.not_le.mpr hbl
  obtain ⟨r, h2, h3, c1, c2⟩ := sa_8 hgC hgM (xs (0 + 1 : Int32).toNatClampNeg) (xs (0 + 2 : Int32).toNatClampNeg)
  refine lv_aload_n hx hb d_law_394 rfl (lv_at hl 2 rfl) ?_
  refine lv_aload_n hx hb d_law_395 rfl (lv_at hl 3 rfl) ?_
  refine lv_iload_n hx hb d_law_396 rfl (lv_at hl 0 rfl) ?_
  refine lv_iconst (v := 1) hx hb d_law_397 (by decide +kernel) ?_
  refine lv_iadd hx hb d_law_398 ?_
  refine va_sld hx hb hX hbl hbA hS lw_v1 d_law_399 ?_
  refine lv_aload_n hx hb d_law_400 rfl (lv_at hl 3 rfl) ?_
  refine lv_iload_n hx hb d_law_401 rfl (lv_at hl 0 rfl) ?_
  refine lv_iconst (v := 2) hx hb d_law_402 (by decide +kernel) ?_
  refine lv_iadd hx hb d_law_403 ?_
  refine va_sld hx hb hX hbl hbA hS lw_v2 d_law_404 ?_
  refine lw_call (y := yX7_below) (yb := cX7_below) (yn := 3) (yt := some .int) (ci := 7) (na := 2) (d := 7) (k := 29) (ix := 48) (As := [.int (xs (0 + 1 : Int32).toNatClampNeg), .int (xs (0 + 2 : Int32).toNatClampNeg)]) (rest := []) (sh := shC) (ad := pC) hx hb hml hown hts lw_in hN hK hAC mokC_86 rfl (ai_sound l hdC ckC mokC 7 86 _ rfl _ _ _ _ c1) (List.mem_of_getElem? (i := 636) (by decide +kernel)) rfl (Nat.le_of_ble_eq_true rfl) (Nat.le_of_ble_eq_true rfl) (Nat.le_of_ble_eq_true rfl) (Nat.le_of_ble_eq_true rfl) hl.1 (Nat.le_of_ble_eq_true rfl) hPC hS d_law_405 (fun H1 locs hk hS => ?_)
  have hPM1 := hPM H1 hk
  refine lv_aload_n hx hb d_law_408 rfl (lv_at hl 1 rfl) ?_
  refine lv_aload_n hx hb d_law_409 rfl (lv_at hl 3 rfl) ?_
  refine lv_iload_n hx hb d_law_410 rfl (lv_at hl 0 rfl) ?_
  refine lv_iconst (v := 1) hx hb d_law_411 (by decide +kernel) ?_
  refine lv_iadd hx hb d_law_412 ?_
  refine va_sld hx hb hX hbl hbA hS lw_v1 d_law_413 ?_
  refine lv_aload_n hx hb d_law_414 rfl (lv_at hl 3 rfl) ?_
  refine lv_iload_n hx hb d_law_415 rfl (lv_at hl 0 rfl) ?_
  refine lv_iconst (v := 2) hx hb d_law_416 (by decide +kernel) ?_
  refine lv_iadd hx hb d_law_417 ?_
  refine va_sld hx hb hX hbl hbA hS lw_v2 d_law_418 ?_
  refine lw_call (y := yX8_below) (yb := cX8_below) (yn := 4) (yt := some .int) (ci := 8) (na := 2) (d := 7) (k := 0) (ix := 51) (As := [.int (xs (0 + 1 : Int32).toNatClampNeg), .int (xs (0 + 2 : Int32).toNatClampNeg)]) (rest := [.int r]) (sh := shM) (ad := pM) hx hb hml hown hts lw_in hN hK hAM mokM_43 rfl (ai_sound l hdM ckM mokM 7 43 _ rfl _ _ _ _ c2) (List.mem_of_getElem? (i := 1128) (by decide +kernel)) rfl (Nat.le_of_ble_eq_true rfl) (Nat.le_of_ble_eq_true rfl) (Nat.le_of_ble_eq_true rfl) (Nat.le_of_ble_eq_true rfl) hl.1 (Nat.le_of_ble_eq_true rfl) hPM1 hS d_law_419 (fun H1 locs hk hS => ?_)
  refine lv_icmp_eq (tgt := 684) hx hb d_law_422 (by decide) (fun _ => ?_) (fun h => absurd rfl h)
  exact lw_next rfl C0 hS hl
set_option maxHeartbeats 4000000 in
set_option maxRecDepth 20000 in
/-- erased -/
theorem lw_c9 {p : Program} {e : Env} {s : State} {m : MethodId} {below : List Frame} {meth : Method} {c : Code} (l : Launch) {b : Nat} {xs : Nat → Int32} {D : va_G} {cA : Bool → ClassId} {pC pM : Nat → Nat} {xC xM : ai_H} {H : Heap} {locs : List Loc} {ls : Array Slot} (C0 : lw_At p s m meth c b 4 xs) (St : lw_St s b D cA pC pM xC xM H locs ls) :
    W p l e room_1 s m #[Value.ref b] below meth c H locs 72 102720 (lw_Z below #[Value.ref b] s) (F0 m 427 ls []) := by
  obtain ⟨hx, hb, hr, hml, hown, hts, hX, hbl, hlocks, hgv⟩ := id C0
  obtain ⟨hPC, hPM, hdC, hdM, hAC, hAM, hgC, hgM, hS, hl, hK, hN⟩ := St
  have hbA : ¬ (fun q : Nat => s.heap.size ≤ q) b := Nat.not_le.mpr hbl
  obtain ⟨r, h2, h3, c1, c2⟩ := sa_9 hgC hgM (xs (0 + 1 : Int32).toNatClampNeg)
  refine lv_aload_n hx hb d_law_427 rfl (lv_at hl 2 rfl) ?_
  refine lv_aload_n hx hb d_law_428 rfl (lv_at hl 3 rfl) ?_
  refine lv_iload_n hx hb d_law_429 rfl (lv_at hl 0 rfl) ?_
  refine lv_iconst (v := 1) hx hb d_law_430 (by decide +kernel) ?_
  refine lv_iadd hx hb d_law_431 ?_
  refine va_sld hx hb hX hbl hbA hS lw_v1 d_law_432 ?_
  refine lw_call (y := yX7_erased) (yb := cX7_erased) (yn := 2) (yt := some .int) (ci := 7) (na := 1) (d := 7) (k := 29) (ix := 52) (As := [.int (xs (0 + 1 : Int32).toNatClampNeg)]) (rest := []) (sh := shC) (ad := pC) hx hb hml hown hts lw_in hN hK hAC mokC_87 rfl (ai_sound l hdC ckC mokC 7 87 _ rfl _ _ _ _ c1) (List.mem_of_getElem? (i := 641) (by decide +kernel)) rfl (Nat.le_of_ble_eq_true rfl) (Nat.le_of_ble_eq_true rfl) (Nat.le_of_ble_eq_true rfl) (Nat.le_of_ble_eq_true rfl) hl.1 (Nat.le_of_ble_eq_true rfl) hPC hS d_law_433 (fun H1 locs hk hS => ?_)
  have hPM1 := hPM H1 hk
  refine lv_aload_n hx hb d_law_436 rfl (lv_at hl 1 rfl) ?_
  refine lv_aload_n hx hb d_law_437 rfl (lv_at hl 3 rfl) ?_
  refine lv_iload_n hx hb d_law_438 rfl (lv_at hl 0 rfl) ?_
  refine lv_iconst (v := 1) hx hb d_law_439 (by decide +kernel) ?_
  refine lv_iadd hx hb d_law_440 ?_
  refine va_sld hx hb hX hbl hbA hS lw_v1 d_law_441 ?_
  refine lw_call (y := yX8_erased) (yb := cX8_erased) (yn := 2) (yt := some .int) (ci := 8) (na := 1) (d := 7) (k := 0) (ix := 55) (As := [.int (xs (0 + 1 : Int32).toNatClampNeg)]) (rest := [.int r]) (sh := shM) (ad := pM) hx hb hml hown hts lw_in hN hK hAM mokM_44 rfl (ai_sound l hdM ckM mokM 7 44 _ rfl _ _ _ _ c2) (List.mem_of_getElem? (i := 1132) (by decide +kernel)) rfl (Nat.le_of_ble_eq_true rfl) (Nat.le_of_ble_eq_true rfl) (Nat.le_of_ble_eq_true rfl) (Nat.le_of_ble_eq_true rfl) hl.1 (Nat.le_of_ble_eq_true rfl) hPM1 hS d_law_442 (fun H1 locs hk hS => ?_)
  refine lv_icmp_eq (tgt := 684) hx hb d_law_445 (by decide) (fun _ => ?_) (fun h => absurd rfl h)
  exact lw_next rfl C0 hS hl
set_option maxHeartbeats 4000000 in
set_option maxRecDepth 20000 in
/-- whole -/
theorem lw_c10 {p : Program} {e : Env} {s : State} {m : MethodId} {below : List Frame} {meth : Method} {c : Code} (l : Launch) {b : Nat} {xs : Nat → Int32} {D : va_G} {cA : Bool → ClassId} {pC pM : Nat → Nat} {xC xM : ai_H} {H : Heap} {locs : List Loc} {ls : Array Slot} (C0 : lw_At p s m meth c b 4 xs) (St : lw_St s b D cA pC pM xC xM H locs ls) :
    W p l e room_1 s m #[Value.ref b] below meth c H locs 72 102720 (lw_Z below #[Value.ref b] s) (F0 m 450 ls []) := by
  obtain ⟨hx, hb, hr, hml, hown, hts, hX, hbl, hlocks, hgv⟩ := id C0
  obtain ⟨hPC, hPM, hdC, hdM, hAC, hAM, hgC, hgM, hS, hl, hK, hN⟩ := St
  have hbA : ¬ (fun q : Nat => s.heap.size ≤ q) b := Nat.not_le.mpr hbl
  obtain ⟨r, h2, h3, c1, c2⟩ := sa_10 hgC hgM (xs (0 + 1 : Int32).toNatClampNeg)
  refine lv_aload_n hx hb d_law_450 rfl (lv_at hl 2 rfl) ?_
  refine lv_aload_n hx hb d_law_451 rfl (lv_at hl 3 rfl) ?_
  refine lv_iload_n hx hb d_law_452 rfl (lv_at hl 0 rfl) ?_
  refine lv_iconst (v := 1) hx hb d_law_453 (by decide +kernel) ?_
  refine lv_iadd hx hb d_law_454 ?_
  refine va_sld hx hb hX hbl hbA hS lw_v1 d_law_455 ?_
  refine lw_call (y := yX7_whole) (yb := cX7_whole) (yn := 2) (yt := some .int) (ci := 7) (na := 1) (d := 7) (k := 29) (ix := 56) (As := [.int (xs (0 + 1 : Int32).toNatClampNeg)]) (rest := []) (sh := shC) (ad := pC) hx hb hml hown hts lw_in hN hK hAC mokC_88 rfl (ai_sound l hdC ckC mokC 7 88 _ rfl _ _ _ _ c1) (List.mem_of_getElem? (i := 646) (by decide +kernel)) rfl (Nat.le_of_ble_eq_true rfl) (Nat.le_of_ble_eq_true rfl) (Nat.le_of_ble_eq_true rfl) (Nat.le_of_ble_eq_true rfl) hl.1 (Nat.le_of_ble_eq_true rfl) hPC hS d_law_456 (fun H1 locs hk hS => ?_)
  have hPM1 := hPM H1 hk
  refine lv_aload_n hx hb d_law_459 rfl (lv_at hl 1 rfl) ?_
  refine lv_aload_n hx hb d_law_460 rfl (lv_at hl 3 rfl) ?_
  refine lv_iload_n hx hb d_law_461 rfl (lv_at hl 0 rfl) ?_
  refine lv_iconst (v := 1) hx hb d_law_462 (by decide +kernel) ?_
  refine lv_iadd hx hb d_law_463 ?_
  refine va_sld hx hb hX hbl hbA hS lw_v1 d_law_464 ?_
  refine lw_call (y := yX8_whole) (yb := cX8_whole) (yn := 5) (yt := some .int) (ci := 8) (na := 1) (d := 7) (k := 0) (ix := 59) (As := [.int (xs (0 + 1 : Int32).toNatClampNeg)]) (rest := [.int r]) (sh := shM) (ad := pM) hx hb hml hown hts lw_in hN hK hAM mokM_45 rfl (ai_sound l hdM ckM mokM 7 45 _ rfl _ _ _ _ c2) (List.mem_of_getElem? (i := 1136) (by decide +kernel)) rfl (Nat.le_of_ble_eq_true rfl) (Nat.le_of_ble_eq_true rfl) (Nat.le_of_ble_eq_true rfl) (Nat.le_of_ble_eq_true rfl) hl.1 (Nat.le_of_ble_eq_true rfl) hPM1 hS d_law_465 (fun H1 locs hk hS => ?_)
  refine lv_icmp_eq (tgt := 684) hx hb d_law_468 (by decide) (fun _ => ?_) (fun h => absurd rfl h)
  exact lw_next rfl C0 hS hl
set_option maxHeartbeats 4000000 in
set_option maxRecDepth 20000 in
/-- above -/
theorem lw_c11 {p : Program} {e : Env} {s : State} {m : MethodId} {below : List Frame} {meth : Method} {c : Code} (l : Launch) {b : Nat} {xs : Nat → Int32} {D : va_G} {cA : Bool → ClassId} {pC pM : Nat → Nat} {xC xM : ai_H} {H : Heap} {locs : List Loc} {ls : Array Slot} (C0 : lw_At p s m meth c b 4 xs) (St : lw_St s b D cA pC pM xC xM H locs ls) :
    W p l e room_1 s m #[Value.ref b] below meth c H locs 72 102720 (lw_Z below #[Value.ref b] s) (F0 m 473 ls []) := by
  obtain ⟨hx, hb, hr, hml, hown, hts, hX, hbl, hlocks, hgv⟩ := id C0
  obtain ⟨hPC, hPM, hdC, hdM, hAC, hAM, hgC, hgM, hS, hl, hK, hN⟩ := St
  have hbA : ¬ (fun q : Nat => s.heap.size ≤ q) b := Nat.not_le.mpr hbl
  obtain ⟨r, h2, h3, c1, c2⟩ := sa_11 hgC hgM (xs (0 + 1 : Int32).toNatClampNeg) (xs (0 + 2 : Int32).toNatClampNeg)
  refine lv_aload_n hx hb d_law_473 rfl (lv_at hl 2 rfl) ?_
  refine lv_aload_n hx hb d_law_474 rfl (lv_at hl 3 rfl) ?_
  refine lv_iload_n hx hb d_law_475 rfl (lv_at hl 0 rfl) ?_
  refine lv_iconst (v := 1) hx hb d_law_476 (by decide +kernel) ?_
  refine lv_iadd hx hb d_law_477 ?_
  refine va_sld hx hb hX hbl hbA hS lw_v1 d_law_478 ?_
  refine lv_aload_n hx hb d_law_479 rfl (lv_at hl 3 rfl) ?_
  refine lv_iload_n hx hb d_law_480 rfl (lv_at hl 0 rfl) ?_
  refine lv_iconst (v := 2) hx hb d_law_481 (by decide +kernel) ?_
  refine lv_iadd hx hb d_law_482 ?_
  refine va_sld hx hb hX hbl hbA hS lw_v2 d_law_483 ?_
  refine lw_call (y := yX7_above) (yb := cX7_above) (yn := 4) (yt := some .int) (ci := 7) (na := 2) (d := 7) (k := 29) (ix := 60) (As := [.int (xs (0 + 1 : Int32).toNatClampNeg), .int (xs (0 + 2 : Int32).toNatClampNeg)]) (rest := []) (sh := shC) (ad := pC) hx hb hml hown hts lw_in hN hK hAC mokC_89 rfl (ai_sound l hdC ckC mokC 7 89 _ rfl _ _ _ _ c1) (List.mem_of_getElem? (i := 655) (by decide +kernel)) rfl (Nat.le_of_ble_eq_true rfl) (Nat.le_of_ble_eq_true rfl) (Nat.le_of_ble_eq_true rfl) (Nat.le_of_ble_eq_true rfl) hl.1 (Nat.le_of_ble_eq_true rfl) hPC hS d_law_484 (fun H1 locs hk hS => ?_)
  have hPM1 := hPM H1 hk
  refine lv_aload_n hx hb d_law_487 rfl (lv_at hl 1 rfl) ?_
  refine lv_aload_n hx hb d_law_488 rfl (lv_at hl 3 rfl) ?_
  refine lv_iload_n hx hb d_law_489 rfl (lv_at hl 0 rfl) ?_
  refine lv_iconst (v := 1) hx hb d_law_490 (by decide +kernel) ?_
  refine lv_iadd hx hb d_law_491 ?_
  refine va_sld hx hb hX hbl hbA hS lw_v1 d_law_492 ?_
  refine lv_aload_n hx hb d_law_493 rfl (lv_at hl 3 rfl) ?_
  refine lv_iload_n hx hb d_law_494 rfl (lv_at hl 0 rfl) ?_
  refine lv_iconst (v := 2) hx hb d_law_495 (by decide +kernel) ?_
  refine lv_iadd hx hb d_law_496 ?_
  refine va_sld hx hb hX hbl hbA hS lw_v2 d_law_497 ?_
  refine lw_call (y := yX8_above) (yb := cX8_above) (yn := 4) (yt := some .int) (ci := 8) (na := 2) (d := 7) (k := 0) (ix := 63) (As := [.int (xs (0 + 1 : Int32).toNatClampNeg), .int (xs (0 + 2 : Int32).toNatClampNeg)]) (rest := [.int r]) (sh := shM) (ad := pM) hx hb hml hown hts lw_in hN hK hAM mokM_46 rfl (ai_sound l hdM ckM mokM 7 46 _ rfl _ _ _ _ c2) (List.mem_of_getElem? (i := 1140) (by decide +kernel)) rfl (Nat.le_of_ble_eq_true rfl) (Nat.le_of_ble_eq_true rfl) (Nat.le_of_ble_eq_true rfl) (Nat.le_of_ble_eq_true rfl) hl.1 (Nat.le_of_ble_eq_true rfl) hPM1 hS d_law_498 (fun H1 locs hk hS => ?_)
  refine lv_icmp_eq (tgt := 684) hx hb d_law_501 (by decide) (fun _ => ?_) (fun h => absurd rfl h)
  exact lw_next rfl C0 hS hl
set_option maxHeartbeats 4000000 in
set_option maxRecDepth 20000 in
/-- member -/
theorem lw_c12 {p : Program} {e : Env} {s : State} {m : MethodId} {below : List Frame} {meth : Method} {c : Code} (l : Launch) {b : Nat} {xs : Nat → Int32} {D : va_G} {cA : Bool → ClassId} {pC pM : Nat → Nat} {xC xM : ai_H} {H : Heap} {locs : List Loc} {ls : Array Slot} (C0 : lw_At p s m meth c b 4 xs) (St : lw_St s b D cA pC pM xC xM H locs ls) :
    W p l e room_1 s m #[Value.ref b] below meth c H locs 72 102720 (lw_Z below #[Value.ref b] s) (F0 m 506 ls []) := by
  obtain ⟨hx, hb, hr, hml, hown, hts, hX, hbl, hlocks, hgv⟩ := id C0
  obtain ⟨hPC, hPM, hdC, hdM, hAC, hAM, hgC, hgM, hS, hl, hK, hN⟩ := St
  have hbA : ¬ (fun q : Nat => s.heap.size ≤ q) b := Nat.not_le.mpr hbl
  obtain ⟨r, h2, h3, c1, c2⟩ := sa_12 hgC hgM (xs (0 + 1 : Int32).toNatClampNeg) (xs (0 + 2 : Int32).toNatClampNeg)
  refine lv_aload_n hx hb d_law_506 rfl (lv_at hl 2 rfl) ?_
  refine lv_aload_n hx hb d_law_507 rfl (lv_at hl 3 rfl) ?_
  refine lv_iload_n hx hb d_law_508 rfl (lv_at hl 0 rfl) ?_
  refine lv_iconst (v := 1) hx hb d_law_509 (by decide +kernel) ?_
  refine lv_iadd hx hb d_law_510 ?_
  refine va_sld hx hb hX hbl hbA hS lw_v1 d_law_511 ?_
  refine lv_aload_n hx hb d_law_512 rfl (lv_at hl 3 rfl) ?_
  refine lv_iload_n hx hb d_law_513 rfl (lv_at hl 0 rfl) ?_
  refine lv_iconst (v := 2) hx hb d_law_514 (by decide +kernel) ?_
  refine lv_iadd hx hb d_law_515 ?_
  refine va_sld hx hb hX hbl hbA hS lw_v2 d_law_516 ?_
  refine lw_call (y := yX7_member) (yb := cX7_member) (yn := 3) (yt := some .int) (ci := 7) (na := 2) (d := 7) (k := 29) (ix := 64) (As := [.int (xs (0 + 1 : Int32).toNatClampNeg), .int (xs (0 + 2 : Int32).toNatClampNeg)]) (rest := []) (sh := shC) (ad := pC) hx hb hml hown hts lw_in hN hK hAC mokC_90 rfl (ai_sound l hdC ckC mokC 7 90 _ rfl _ _ _ _ c1) (List.mem_of_getElem? (i := 660) (by decide +kernel)) rfl (Nat.le_of_ble_eq_true rfl) (Nat.le_of_ble_eq_true rfl) (Nat.le_of_ble_eq_true rfl) (Nat.le_of_ble_eq_true rfl) hl.1 (Nat.le_of_ble_eq_true rfl) hPC hS d_law_517 (fun H1 locs hk hS => ?_)
  have hPM1 := hPM H1 hk
  refine lv_aload_n hx hb d_law_520 rfl (lv_at hl 1 rfl) ?_
  refine lv_aload_n hx hb d_law_521 rfl (lv_at hl 3 rfl) ?_
  refine lv_iload_n hx hb d_law_522 rfl (lv_at hl 0 rfl) ?_
  refine lv_iconst (v := 1) hx hb d_law_523 (by decide +kernel) ?_
  refine lv_iadd hx hb d_law_524 ?_
  refine va_sld hx hb hX hbl hbA hS lw_v1 d_law_525 ?_
  refine lv_aload_n hx hb d_law_526 rfl (lv_at hl 3 rfl) ?_
  refine lv_iload_n hx hb d_law_527 rfl (lv_at hl 0 rfl) ?_
  refine lv_iconst (v := 2) hx hb d_law_528 (by decide +kernel) ?_
  refine lv_iadd hx hb d_law_529 ?_
  refine va_sld hx hb hX hbl hbA hS lw_v2 d_law_530 ?_
  refine lw_call (y := yX8_member) (yb := cX8_member) (yn := 3) (yt := some .int) (ci := 8) (na := 2) (d := 7) (k := 0) (ix := 67) (As := [.int (xs (0 + 1 : Int32).toNatClampNeg), .int (xs (0 + 2 : Int32).toNatClampNeg)]) (rest := [.int r]) (sh := shM) (ad := pM) hx hb hml hown hts lw_in hN hK hAM mokM_47 rfl (ai_sound l hdM ckM mokM 7 47 _ rfl _ _ _ _ c2) (List.mem_of_getElem? (i := 1144) (by decide +kernel)) rfl (Nat.le_of_ble_eq_true rfl) (Nat.le_of_ble_eq_true rfl) (Nat.le_of_ble_eq_true rfl) (Nat.le_of_ble_eq_true rfl) hl.1 (Nat.le_of_ble_eq_true rfl) hPM1 hS d_law_531 (fun H1 locs hk hS => ?_)
  refine lv_icmp_eq (tgt := 684) hx hb d_law_534 (by decide) (fun _ => ?_) (fun h => absurd rfl h)
  exact lw_next rfl C0 hS hl
set_option maxHeartbeats 4000000 in
set_option maxRecDepth 20000 in
/-- feed -/
theorem lw_c13 {p : Program} {e : Env} {s : State} {m : MethodId} {below : List Frame} {meth : Method} {c : Code} (l : Launch) {b : Nat} {xs : Nat → Int32} {D : va_G} {cA : Bool → ClassId} {pC pM : Nat → Nat} {xC xM : ai_H} {H : Heap} {locs : List Loc} {ls : Array Slot} (C0 : lw_At p s m meth c b 4 xs) (St : lw_St s b D cA pC pM xC xM H locs ls) :
    W p l e room_1 s m #[Value.ref b] below meth c H locs 72 102720 (lw_Z below #[Value.ref b] s) (F0 m 539 ls []) := by
  obtain ⟨hx, hb, hr, hml, hown, hts, hX, hbl, hlocks, hgv⟩ := id C0
  obtain ⟨hPC, hPM, hdC, hdM, hAC, hAM, hgC, hgM, hS, hl, hK, hN⟩ := St
  have hbA : ¬ (fun q : Nat => s.heap.size ≤ q) b := Nat.not_le.mpr hbl
  obtain ⟨r, h2, h3, c1, c2⟩ := sa_13 hgC hgM (xs (0 + 1 : Int32).toNatClampNeg) ((xs (0 + 2 : Int32).toNatClampNeg).toInt64 <<< ((32 : Int32).toInt64 &&& 63) ||| ((xs (0 + 3 : Int32).toNatClampNeg).toInt64 &&& 4294967295))
  refine lv_aload_n hx hb d_law_539 rfl (lv_at hl 2 rfl) ?_
  refine lv_aload_n hx hb d_law_540 rfl (lv_at hl 3 rfl) ?_
  refine lv_iload_n hx hb d_law_541 rfl (lv_at hl 0 rfl) ?_
  refine lv_iconst (v := 1) hx hb d_law_542 (by decide +kernel) ?_
  refine lv_iadd hx hb d_law_543 ?_
  refine va_sld hx hb hX hbl hbA hS lw_v1 d_law_544 ?_
  refine lv_aload_n hx hb d_law_545 rfl (lv_at hl 3 rfl) ?_
  refine lv_iload_n hx hb d_law_546 rfl (lv_at hl 0 rfl) ?_
  refine lv_iconst (v := 2) hx hb d_law_547 (by decide +kernel) ?_
  refine lv_iadd hx hb d_law_548 ?_
  refine va_sld hx hb hX hbl hbA hS lw_v2 d_law_549 ?_
  refine lv_i2l hx hb d_law_550 rfl ?_
  refine lv_bipush (v := 32) hx hb d_law_551 (by decide +kernel) ?_
  refine lv_lshl hx hb d_law_553 rfl ?_
  refine lv_aload_n hx hb d_law_554 rfl (lv_at hl 3 rfl) ?_
  refine lv_iload_n hx hb d_law_555 rfl (lv_at hl 0 rfl) ?_
  refine lv_iconst (v := 3) hx hb d_law_556 (by decide +kernel) ?_
  refine lv_iadd hx hb d_law_557 ?_
  refine va_sld hx hb hX hbl hbA hS lw_v3 d_law_558 ?_
  refine lv_i2l hx hb d_law_559 rfl ?_
  refine lv_ldc2 (v := 4294967295) hx hb hown (hts _ (List.mem_of_getElem? (i := 1216) (by decide +kernel))) d_law_560 ?_
  refine lv_land hx hb d_law_563 ?_
  refine lv_lor hx hb d_law_564 ?_
  refine lw_call (y := yX7_feed) (yb := cX7_feed) (yn := 4) (yt := some .int) (ci := 7) (na := 2) (d := 7) (k := 29) (ix := 70) (As := [.int (xs (0 + 1 : Int32).toNatClampNeg), .long ((xs (0 + 2 : Int32).toNatClampNeg).toInt64 <<< ((32 : Int32).toInt64 &&& 63) ||| ((xs (0 + 3 : Int32).toNatClampNeg).toInt64 &&& 4294967295))]) (rest := []) (sh := shC) (ad := pC) hx hb hml hown hts lw_in hN hK hAC mokC_91 rfl (ai_sound l hdC ckC mokC 7 91 _ rfl _ _ _ _ c1) (List.mem_of_getElem? (i := 665) (by decide +kernel)) rfl (Nat.le_of_ble_eq_true rfl) (Nat.le_of_ble_eq_true rfl) (Nat.le_of_ble_eq_true rfl) (Nat.le_of_ble_eq_true rfl) hl.1 (Nat.le_of_ble_eq_true rfl) hPC hS d_law_565 (fun H1 locs hk hS => ?_)
  have hPM1 := hPM H1 hk
  refine lv_aload_n hx hb d_law_568 rfl (lv_at hl 1 rfl) ?_
  refine lv_aload_n hx hb d_law_569 rfl (lv_at hl 3 rfl) ?_
  refine lv_iload_n hx hb d_law_570 rfl (lv_at hl 0 rfl) ?_
  refine lv_iconst (v := 1) hx hb d_law_571 (by decide +kernel) ?_
  refine lv_iadd hx hb d_law_572 ?_
  refine va_sld hx hb hX hbl hbA hS lw_v1 d_law_573 ?_
  refine lv_aload_n hx hb d_law_574 rfl (lv_at hl 3 rfl) ?_
  refine lv_iload_n hx hb d_law_575 rfl (lv_at hl 0 rfl) ?_
  refine lv_iconst (v := 2) hx hb d_law_576 (by decide +kernel) ?_
  refine lv_iadd hx hb d_law_577 ?_
  refine va_sld hx hb hX hbl hbA hS lw_v2 d_law_578 ?_
  refine lv_i2l hx hb d_law_579 rfl ?_
  refine lv_bipush (v := 32) hx hb d_law_580 (by decide +kernel) ?_
  refine lv_lshl hx hb d_law_582 rfl ?_
  refine lv_aload_n hx hb d_law_583 rfl (lv_at hl 3 rfl) ?_
  refine lv_iload_n hx hb d_law_584 rfl (lv_at hl 0 rfl) ?_
  refine lv_iconst (v := 3) hx hb d_law_585 (by decide +kernel) ?_
  refine lv_iadd hx hb d_law_586 ?_
  refine va_sld hx hb hX hbl hbA hS lw_v3 d_law_587 ?_
  refine lv_i2l hx hb d_law_588 rfl ?_
  refine lv_ldc2 (v := 4294967295) hx hb hown (hts _ (List.mem_of_getElem? (i := 1216) (by decide +kernel))) d_law_589 ?_
  refine lv_land hx hb d_law_592 ?_
  refine lv_lor hx hb d_law_593 ?_
  refine lw_call (y := yX8_feed) (yb := cX8_feed) (yn := 5) (yt := some .int) (ci := 8) (na := 2) (d := 7) (k := 0) (ix := 74) (As := [.int (xs (0 + 1 : Int32).toNatClampNeg), .long ((xs (0 + 2 : Int32).toNatClampNeg).toInt64 <<< ((32 : Int32).toInt64 &&& 63) ||| ((xs (0 + 3 : Int32).toNatClampNeg).toInt64 &&& 4294967295))]) (rest := [.int r]) (sh := shM) (ad := pM) hx hb hml hown hts lw_in hN hK hAM mokM_48 rfl (ai_sound l hdM ckM mokM 7 48 _ rfl _ _ _ _ c2) (List.mem_of_getElem? (i := 1148) (by decide +kernel)) rfl (Nat.le_of_ble_eq_true rfl) (Nat.le_of_ble_eq_true rfl) (Nat.le_of_ble_eq_true rfl) (Nat.le_of_ble_eq_true rfl) hl.1 (Nat.le_of_ble_eq_true rfl) hPM1 hS d_law_594 (fun H1 locs hk hS => ?_)
  refine lv_icmp_eq (tgt := 684) hx hb d_law_597 (by decide) (fun _ => ?_) (fun h => absurd rfl h)
  exact lw_next rfl C0 hS hl
set_option maxHeartbeats 4000000 in
set_option maxRecDepth 20000 in
/-- read -/
theorem lw_c14 {p : Program} {e : Env} {s : State} {m : MethodId} {below : List Frame} {meth : Method} {c : Code} (l : Launch) {b : Nat} {xs : Nat → Int32} {D : va_G} {cA : Bool → ClassId} {pC pM : Nat → Nat} {xC xM : ai_H} {H : Heap} {locs : List Loc} {ls : Array Slot} (C0 : lw_At p s m meth c b 4 xs) (St : lw_St s b D cA pC pM xC xM H locs ls) :
    W p l e room_1 s m #[Value.ref b] below meth c H locs 72 102720 (lw_Z below #[Value.ref b] s) (F0 m 602 ls []) := by
  obtain ⟨hx, hb, hr, hml, hown, hts, hX, hbl, hlocks, hgv⟩ := id C0
  obtain ⟨hPC, hPM, hdC, hdM, hAC, hAM, hgC, hgM, hS, hl, hK, hN⟩ := St
  have hbA : ¬ (fun q : Nat => s.heap.size ≤ q) b := Nat.not_le.mpr hbl
  obtain ⟨r, h2, h3, c1, c2⟩ := sa_14 hgC hgM
  refine lv_aload_n hx hb d_law_602 rfl (lv_at hl 2 rfl) ?_
  refine lw_call (y := yX7_read) (yb := cX7_read) (yn := 3) (yt := some .int) (ci := 7) (na := 0) (d := 7) (k := 29) (ix := 75) (As := []) (rest := []) (sh := shC) (ad := pC) hx hb hml hown hts lw_in hN hK hAC mokC_92 rfl (ai_sound l hdC ckC mokC 7 92 _ rfl _ _ _ _ c1) (List.mem_of_getElem? (i := 674) (by decide +kernel)) rfl (Nat.le_of_ble_eq_true rfl) (Nat.le_of_ble_eq_true rfl) (Nat.le_of_ble_eq_true rfl) (Nat.le_of_ble_eq_true rfl) hl.1 (Nat.le_of_ble_eq_true rfl) hPC hS d_law_603 (fun H1 locs hk hS => ?_)
  have hPM1 := hPM H1 hk
  refine lv_aload_n hx hb d_law_606 rfl (lv_at hl 1 rfl) ?_
  refine lw_call (y := yX8_read) (yb := cX8_read) (yn := 2) (yt := some .int) (ci := 8) (na := 0) (d := 7) (k := 0) (ix := 79) (As := []) (rest := [.int r]) (sh := shM) (ad := pM) hx hb hml hown hts lw_in hN hK hAM mokM_59 rfl (ai_sound l hdM ckM mokM 7 59 _ rfl _ _ _ _ c2) (List.mem_of_getElem? (i := 1152) (by decide +kernel)) rfl (Nat.le_of_ble_eq_true rfl) (Nat.le_of_ble_eq_true rfl) (Nat.le_of_ble_eq_true rfl) (Nat.le_of_ble_eq_true rfl) hl.1 (Nat.le_of_ble_eq_true rfl) hPM1 hS d_law_607 (fun H1 locs hk hS => ?_)
  refine lv_icmp_eq (tgt := 684) hx hb d_law_610 (by decide) (fun _ => ?_) (fun h => absurd rfl h)
  exact lw_next rfl C0 hS hl
set_option maxHeartbeats 4000000 in
set_option maxRecDepth 20000 in
/-- print -/
theorem lw_c15 {p : Program} {e : Env} {s : State} {m : MethodId} {below : List Frame} {meth : Method} {c : Code} (l : Launch) {b : Nat} {xs : Nat → Int32} {D : va_G} {cA : Bool → ClassId} {pC pM : Nat → Nat} {xC xM : ai_H} {H : Heap} {locs : List Loc} {ls : Array Slot} (C0 : lw_At p s m meth c b 4 xs) (St : lw_St s b D cA pC pM xC xM H locs ls) :
    W p l e room_1 s m #[Value.ref b] below meth c H locs 72 102720 (lw_Z below #[Value.ref b] s) (F0 m 615 ls []) := by
  obtain ⟨hx, hb, hr, hml, hown, hts, hX, hbl, hlocks, hgv⟩ := id C0
  obtain ⟨hPC, hPM, hdC, hdM, hAC, hAM, hgC, hgM, hS, hl, hK, hN⟩ := St
  have hbA : ¬ (fun q : Nat => s.heap.size ≤ q) b := Nat.not_le.mpr hbl
  obtain ⟨r, h2, h3, c1, c2⟩ := sa_15 hgC hgM (xs (0 + 1 : Int32).toNatClampNeg)
  refine lv_aload_n hx hb d_law_615 rfl (lv_at hl 2 rfl) ?_
  refine lv_aload_n hx hb d_law_616 rfl (lv_at hl 3 rfl) ?_
  refine lv_iload_n hx hb d_law_617 rfl (lv_at hl 0 rfl) ?_
  refine lv_iconst (v := 1) hx hb d_law_618 (by decide +kernel) ?_
  refine lv_iadd hx hb d_law_619 ?_
  refine va_sld hx hb hX hbl hbA hS lw_v1 d_law_620 ?_
  refine lw_call (y := yX7_print) (yb := cX7_print) (yn := 2) (yt := some .int) (ci := 7) (na := 1) (d := 7) (k := 29) (ix := 80) (As := [.int (xs (0 + 1 : Int32).toNatClampNeg)]) (rest := []) (sh := shC) (ad := pC) hx hb hml hown hts lw_in hN hK hAC mokC_93 rfl (ai_sound l hdC ckC mokC 7 93 _ rfl _ _ _ _ c1) (List.mem_of_getElem? (i := 722) (by decide +kernel)) rfl (Nat.le_of_ble_eq_true rfl) (Nat.le_of_ble_eq_true rfl) (Nat.le_of_ble_eq_true rfl) (Nat.le_of_ble_eq_true rfl) hl.1 (Nat.le_of_ble_eq_true rfl) hPC hS d_law_621 (fun H1 locs hk hS => ?_)
  have hPM1 := hPM H1 hk
  refine lv_aload_n hx hb d_law_624 rfl (lv_at hl 1 rfl) ?_
  refine lv_aload_n hx hb d_law_625 rfl (lv_at hl 3 rfl) ?_
  refine lv_iload_n hx hb d_law_626 rfl (lv_at hl 0 rfl) ?_
  refine lv_iconst (v := 1) hx hb d_law_627 (by decide +kernel) ?_
  refine lv_iadd hx hb d_law_628 ?_
  refine va_sld hx hb hX hbl hbA hS lw_v1 d_law_629 ?_
  refine lw_call (y := yX8_print) (yb := cX8_print) (yn := 3) (yt := some .int) (ci := 8) (na := 1) (d := 7) (k := 0) (ix := 83) (As := [.int (xs (0 + 1 : Int32).toNatClampNeg)]) (rest := [.int r]) (sh := shM) (ad := pM) hx hb hml hown hts lw_in hN hK hAM mokM_62 rfl (ai_sound l hdM ckM mokM 7 62 _ rfl _ _ _ _ c2) (List.mem_of_getElem? (i := 1196) (by decide +kernel)) rfl (Nat.le_of_ble_eq_true rfl) (Nat.le_of_ble_eq_true rfl) (Nat.le_of_ble_eq_true rfl) (Nat.le_of_ble_eq_true rfl) hl.1 (Nat.le_of_ble_eq_true rfl) hPM1 hS d_law_630 (fun H1 locs hk hS => ?_)
  refine lv_icmp_eq (tgt := 684) hx hb d_law_633 (by decide) (fun _ => ?_) (fun h => absurd rfl h)
  exact lw_next rfl C0 hS hl
set_option maxHeartbeats 4000000 in
set_option maxRecDepth 20000 in
/-- out -/
theorem lw_c16 {p : Program} {e : Env} {s : State} {m : MethodId} {below : List Frame} {meth : Method} {c : Code} (l : Launch) {b : Nat} {xs : Nat → Int32} {D : va_G} {cA : Bool → ClassId} {pC pM : Nat → Nat} {xC xM : ai_H} {H : Heap} {locs : List Loc} {ls : Array Slot} (C0 : lw_At p s m meth c b 4 xs) (St : lw_St s b D cA pC pM xC xM H locs ls) :
    W p l e room_1 s m #[Value.ref b] below meth c H locs 72 102720 (lw_Z below #[Value.ref b] s) (F0 m 638 ls []) := by
  obtain ⟨hx, hb, hr, hml, hown, hts, hX, hbl, hlocks, hgv⟩ := id C0
  obtain ⟨hPC, hPM, hdC, hdM, hAC, hAM, hgC, hgM, hS, hl, hK, hN⟩ := St
  have hbA : ¬ (fun q : Nat => s.heap.size ≤ q) b := Nat.not_le.mpr hbl
  obtain ⟨r, h2, h3, c1, c2⟩ := sa_16 hgC hgM (xs (0 + 1 : Int32).toNatClampNeg)
  refine lv_aload_n hx hb d_law_638 rfl (lv_at hl 2 rfl) ?_
  refine lv_aload_n hx hb d_law_639 rfl (lv_at hl 3 rfl) ?_
  refine lv_iload_n hx hb d_law_640 rfl (lv_at hl 0 rfl) ?_
  refine lv_iconst (v := 1) hx hb d_law_641 (by decide +kernel) ?_
  refine lv_iadd hx hb d_law_642 ?_
  refine va_sld hx hb hX hbl hbA hS lw_v1 d_law_643 ?_
  refine lw_call (y := yX7_out) (yb := cX7_out) (yn := 2) (yt := some .int) (ci := 7) (na := 1) (d := 7) (k := 29) (ix := 84) (As := [.int (xs (0 + 1 : Int32).toNatClampNeg)]) (rest := []) (sh := shC) (ad := pC) hx hb hml hown hts lw_in hN hK hAC mokC_94 rfl (ai_sound l hdC ckC mokC 7 94 _ rfl _ _ _ _ c1) (List.mem_of_getElem? (i := 754) (by decide +kernel)) rfl (Nat.le_of_ble_eq_true rfl) (Nat.le_of_ble_eq_true rfl) (Nat.le_of_ble_eq_true rfl) (Nat.le_of_ble_eq_true rfl) hl.1 (Nat.le_of_ble_eq_true rfl) hPC hS d_law_644 (fun H1 locs hk hS => ?_)
  have hPM1 := hPM H1 hk
  refine lv_aload_n hx hb d_law_647 rfl (lv_at hl 1 rfl) ?_
  refine lv_aload_n hx hb d_law_648 rfl (lv_at hl 3 rfl) ?_
  refine lv_iload_n hx hb d_law_649 rfl (lv_at hl 0 rfl) ?_
  refine lv_iconst (v := 1) hx hb d_law_650 (by decide +kernel) ?_
  refine lv_iadd hx hb d_law_651 ?_
  refine va_sld hx hb hX hbl hbA hS lw_v1 d_law_652 ?_
  refine lw_call (y := yX8_out) (yb := cX8_out) (yn := 2) (yt := some .int) (ci := 8) (na := 1) (d := 7) (k := 0) (ix := 87) (As := [.int (xs (0 + 1 : Int32).toNatClampNeg)]) (rest := [.int r]) (sh := shM) (ad := pM) hx hb hml hown hts lw_in hN hK hAM mokM_63 rfl (ai_sound l hdM ckM mokM 7 63 _ rfl _ _ _ _ c2) (List.mem_of_getElem? (i := 1208) (by decide +kernel)) rfl (Nat.le_of_ble_eq_true rfl) (Nat.le_of_ble_eq_true rfl) (Nat.le_of_ble_eq_true rfl) (Nat.le_of_ble_eq_true rfl) hl.1 (Nat.le_of_ble_eq_true rfl) hPM1 hS d_law_653 (fun H1 locs hk hS => ?_)
  refine lv_icmp_eq (tgt := 684) hx hb d_law_656 (by decide) (fun _ => ?_) (fun h => absurd rfl h)
  exact lw_next rfl C0 hS hl
set_option maxHeartbeats 4000000 in
set_option maxRecDepth 20000 in
/-- count -/
theorem lw_c17 {p : Program} {e : Env} {s : State} {m : MethodId} {below : List Frame} {meth : Method} {c : Code} (l : Launch) {b : Nat} {xs : Nat → Int32} {D : va_G} {cA : Bool → ClassId} {pC pM : Nat → Nat} {xC xM : ai_H} {H : Heap} {locs : List Loc} {ls : Array Slot} (C0 : lw_At p s m meth c b 4 xs) (St : lw_St s b D cA pC pM xC xM H locs ls) :
    W p l e room_1 s m #[Value.ref b] below meth c H locs 72 102720 (lw_Z below #[Value.ref b] s) (F0 m 661 ls []) := by
  obtain ⟨hx, hb, hr, hml, hown, hts, hX, hbl, hlocks, hgv⟩ := id C0
  obtain ⟨hPC, hPM, hdC, hdM, hAC, hAM, hgC, hgM, hS, hl, hK, hN⟩ := St
  have hbA : ¬ (fun q : Nat => s.heap.size ≤ q) b := Nat.not_le.mpr hbl
  obtain ⟨r, h2, h3, c1, c2⟩ := sa_17 hgC hgM (xs (0 + 1 : Int32).toNatClampNeg)
  refine lv_aload_n hx hb d_law_661 rfl (lv_at hl 2 rfl) ?_
  refine lv_aload_n hx hb d_law_662 rfl (lv_at hl 3 rfl) ?_
  refine lv_iload_n hx hb d_law_663 rfl (lv_at hl 0 rfl) ?_
  refine lv_iconst (v := 1) hx hb d_law_664 (by decide +kernel) ?_
  refine lv_iadd hx hb d_law_665 ?_
  refine va_sld hx hb hX hbl hbA hS lw_v1 d_law_666 ?_
  refine lw_call (y := yX7_count) (yb := cX7_count) (yn := 2) (yt := some .int) (ci := 7) (na := 1) (d := 7) (k := 29) (ix := 88) (As := [.int (xs (0 + 1 : Int32).toNatClampNeg)]) (rest := []) (sh := shC) (ad := pC) hx hb hml hown hts lw_in hN hK hAC mokC_95 rfl (ai_sound l hdC ckC mokC 7 95 _ rfl _ _ _ _ c1) (List.mem_of_getElem? (i := 762) (by decide +kernel)) rfl (Nat.le_of_ble_eq_true rfl) (Nat.le_of_ble_eq_true rfl) (Nat.le_of_ble_eq_true rfl) (Nat.le_of_ble_eq_true rfl) hl.1 (Nat.le_of_ble_eq_true rfl) hPC hS d_law_667 (fun H1 locs hk hS => ?_)
  have hPM1 := hPM H1 hk
  refine lv_aload_n hx hb d_law_670 rfl (lv_at hl 1 rfl) ?_
  refine lv_aload_n hx hb d_law_671 rfl (lv_at hl 3 rfl) ?_
  refine lv_iload_n hx hb d_law_672 rfl (lv_at hl 0 rfl) ?_
  refine lv_iconst (v := 1) hx hb d_law_673 (by decide +kernel) ?_
  refine lv_iadd hx hb d_law_674 ?_
  refine va_sld hx hb hX hbl hbA hS lw_v1 d_law_675 ?_
  refine lw_call (y := yX8_count) (yb := cX8_count) (yn := 4) (yt := some .int) (ci := 8) (na := 1) (d := 7) (k := 0) (ix := 91) (As := [.int (xs (0 + 1 : Int32).toNatClampNeg)]) (rest := [.int r]) (sh := shM) (ad := pM) hx hb hml hown hts lw_in hN hK hAM mokM_64 rfl (ai_sound l hdM ckM mokM 7 64 _ rfl _ _ _ _ c2) (List.mem_of_getElem? (i := 1212) (by decide +kernel)) rfl (Nat.le_of_ble_eq_true rfl) (Nat.le_of_ble_eq_true rfl) (Nat.le_of_ble_eq_true rfl) (Nat.le_of_ble_eq_true rfl) hl.1 (Nat.le_of_ble_eq_true rfl) hPM1 hS d_law_676 (fun H1 locs hk hS => ?_)
  refine lv_icmp_eq (tgt := 684) hx hb d_law_679 (by decide) (fun _ => ?_) (fun h => absurd rfl h)
  exact lw_next rfl C0 hS hl
