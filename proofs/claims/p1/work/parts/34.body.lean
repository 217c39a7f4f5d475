theorem dd_lC : ∀ j, j < 9 → (parseFieldDescriptor (TX7 j).2.2.1).map defaultValue = some (vp_V dfC j) := by decide +kernel
theorem wl_lC : Cond.classLink R_law 7 RX7 ∈ lw_tbl ∧ Cond.instantiable RX7 9 ∈ lw_tbl ∧ Cond.initialized RX7 ∈ lw_tbl := ⟨List.mem_of_getElem? (i := 84) (by decide +kernel), List.mem_of_getElem? (i := 85) (by decide +kernel), List.mem_of_getElem? (i := 73) (by decide +kernel)⟩
theorem wm_lC : Cond.methodLink R_law 9 yX7_init ∈ lw_tbl ∧ Cond.instanceMethod yX7_init ∈ lw_tbl ∧ Cond.code yX7_init cX7_init 1 none ∈ lw_tbl := ⟨List.mem_of_getElem? (i := 86) (by decide +kernel), List.mem_of_getElem? (i := 87) (by decide +kernel), List.mem_of_getElem? (i := 88) (by decide +kernel)⟩
theorem wy_lC : yX7_init.cls ≠ "java/lang/invoke/MethodHandle" ∧ yX7_init.cls ≠ "java/lang/invoke/VarHandle" ∧ (parseMethodDescriptor yX7_init.desc).map (fun d => d.parameters.length) = some 0 := by decide +kernel
theorem dd_lM : ∀ j, j < 56 → (parseFieldDescriptor (TX8 j).2.2.1).map defaultValue = some (vp_V dfM j) := by decide +kernel
theorem wl_lM : Cond.classLink R_law 10 RX8 ∈ lw_tbl ∧ Cond.instantiable RX8 56 ∈ lw_tbl ∧ Cond.initialized RX8 ∈ lw_tbl := ⟨List.mem_of_getElem? (i := 783) (by decide +kernel), List.mem_of_getElem? (i := 784) (by decide +kernel), List.mem_of_getElem? (i := 81) (by decide +kernel)⟩
theorem wm_lM : Cond.methodLink R_law 12 yX8_init ∈ lw_tbl ∧ Cond.instanceMethod yX8_init ∈ lw_tbl ∧ Cond.code yX8_init cX8_init 2 none ∈ lw_tbl := ⟨List.mem_of_getElem? (i := 785) (by decide +kernel), List.mem_of_getElem? (i := 786) (by decide +kernel), List.mem_of_getElem? (i := 787) (by decide +kernel)⟩
theorem wy_lM : yX8_init.cls ≠ "java/lang/invoke/MethodHandle" ∧ yX8_init.cls ≠ "java/lang/invoke/VarHandle" ∧ (parseMethodDescriptor yX8_init.desc).map (fun d => d.parameters.length) = some 0 := by decide +kernel
set_option maxHeartbeats 4000000 in
set_option maxRecDepth 20000 in
theorem lw_body {p : Program} {e : Env} {s : State} {m : MethodId} {below : List Frame} {meth : Method} {c : Code} (l : Launch) {b L : Nat} {xs : Nat → Int32} {D : va_G} {cA : Bool → ClassId} {pC pM : Nat → Nat} {xC xM : ai_H} {H : Heap} {locs : List Loc} {ls : Array Slot} (hL : L ≤ 4) (C0 : lw_At p s m meth c b L xs) (St : lw_St s b D cA pC pM xC xM H locs ls) :
    W p l e room_1 s m #[Value.ref b] below meth c H locs 72 102720 (lw_Z below #[Value.ref b] s) (F0 m 18 ls []) := by
  obtain ⟨hx, hb, hr, hml, hown, hts, hX, hbl, hlocks, hgv⟩ := id C0
  obtain ⟨hPC, hPM, hdC, hdM, hAC, hAM, hgC, hgM, hS, hl, hK, hN⟩ := id St
  have hbA : ¬ (fun q : Nat => s.heap.size ≤ q) b := Nat.not_le.mpr hbl
  by_cases h4 : L = 4
  · subst h4
    refine lv_iload_n hx hb d_law_18 rfl (lv_at hl 0 rfl) ?_
    refine lv_aload_n hx hb d_law_19 rfl (lv_at hl 3 rfl) ?_
    refine va_slen hx hb hX hbl hbA hS d_law_20 ?_
    refine lv_iconst (v := 4) hx hb d_law_21 (by decide +kernel) ?_
    refine lv_isub hx hb d_law_22 ?_
    refine lv_icmp_gt (tgt := 690) hx hb d_law_23 (by decide) (fun h => absurd h (by decide +kernel)) (fun _ => ?_)
    refine lv_aload_n hx hb d_law_26 rfl (lv_at hl 3 rfl) ?_
    refine lv_iload_n hx hb d_law_27 rfl (lv_at hl 0 rfl) ?_
    refine va_sld hx hb hX hbl hbA hS lw_v0 d_law_28 ?_
    refine lv_bipush (v := 31) hx hb d_law_29 (by decide +kernel) ?_
    refine lv_iand hx hb d_law_31 ?_
    generalize (xs (0 : Int32).toNatClampNeg &&& 31) = v
    have hv : (v.toInt < 0 ∨ 17 < v.toInt) ∨ v = 0 ∨ v = 1 ∨ v = 2 ∨ v = 3 ∨ v = 4 ∨ v = 5 ∨ v = 6 ∨ v = 7 ∨ v = 8 ∨ v = 9 ∨ v = 10 ∨ v = 11 ∨ v = 12 ∨ v = 13 ∨ v = 14 ∨ v = 15 ∨ v = 16 ∨ v = 17 := by
      have hk : ∀ k : Int32, v.toInt = k.toInt → v = k := fun k h => Int32.toInt.inj h
      by_cases h1 : v.toInt < 0 ∨ 17 < v.toInt
      · exact Or.inl h1
      · right
        have hc : v.toInt = 0 ∨ v.toInt = 1 ∨ v.toInt = 2 ∨ v.toInt = 3 ∨ v.toInt = 4 ∨ v.toInt = 5 ∨ v.toInt = 6 ∨ v.toInt = 7 ∨ v.toInt = 8 ∨ v.toInt = 9 ∨ v.toInt = 10 ∨ v.toInt = 11 ∨ v.toInt = 12 ∨ v.toInt = 13 ∨ v.toInt = 14 ∨ v.toInt = 15 ∨ v.toInt = 16 ∨ v.toInt = 17 := by omega
        rcases hc with h | h | h | h | h | h | h | h | h | h | h | h | h | h | h | h | h | h
        · have h9 : v = 0 := hk 0 h
          simp [h9]
        · have h9 : v = 1 := hk 1 h
          simp [h9]
        · have h9 : v = 2 := hk 2 h
          simp [h9]
        · have h9 : v = 3 := hk 3 h
          simp [h9]
        · have h9 : v = 4 := hk 4 h
          simp [h9]
        · have h9 : v = 5 := hk 5 h
          simp [h9]
        · have h9 : v = 6 := hk 6 h
          simp [h9]
        · have h9 : v = 7 := hk 7 h
          simp [h9]
        · have h9 : v = 8 := hk 8 h
          simp [h9]
        · have h9 : v = 9 := hk 9 h
          simp [h9]
        · have h9 : v = 10 := hk 10 h
          simp [h9]
        · have h9 : v = 11 := hk 11 h
          simp [h9]
        · have h9 : v = 12 := hk 12 h
          simp [h9]
        · have h9 : v = 13 := hk 13 h
          simp [h9]
        · have h9 : v = 14 := hk 14 h
          simp [h9]
        · have h9 : v = 15 := hk 15 h
          simp [h9]
        · have h9 : v = 16 := hk 16 h
          simp [h9]
        · have h9 : v = 17 := hk 17 h
          simp [h9]
    rcases hv with hv | rfl | rfl | rfl | rfl | rfl | rfl | rfl | rfl | rfl | rfl | rfl | rfl | rfl | rfl | rfl | rfl | rfl | rfl
    · refine lv_tableOut (tgt := 684) hx hb d_law_32 hv (by decide) ?_
      exact lw_next rfl C0 hS hl
    · refine lv_tableIn (tgt := 120) (off := 88) hx hb d_law_32 (by decide +kernel) (by decide +kernel) (by decide +kernel) (by decide) ?_
      exact lw_c0 l C0 St
    · refine lv_tableIn (tgt := 163) (off := 131) hx hb d_law_32 (by decide +kernel) (by decide +kernel) (by decide +kernel) (by decide) ?_
      exact lw_c1 l C0 St
    · refine lv_tableIn (tgt := 196) (off := 164) hx hb d_law_32 (by decide +kernel) (by decide +kernel) (by decide +kernel) (by decide) ?_
      exact lw_c2 l C0 St
    · refine lv_tableIn (tgt := 239) (off := 207) hx hb d_law_32 (by decide +kernel) (by decide +kernel) (by decide +kernel) (by decide) ?_
      exact lw_c3 l C0 St
    · refine lv_tableIn (tgt := 272) (off := 240) hx hb d_law_32 (by decide +kernel) (by decide +kernel) (by decide +kernel) (by decide) ?_
      exact lw_c4 l C0 St
    · refine lv_tableIn (tgt := 305) (off := 273) hx hb d_law_32 (by decide +kernel) (by decide +kernel) (by decide +kernel) (by decide) ?_
      exact lw_c5 l C0 St
    · refine lv_tableIn (tgt := 338) (off := 306) hx hb d_law_32 (by decide +kernel) (by decide +kernel) (by decide +kernel) (by decide) ?_
      exact lw_c6 l C0 St
    · refine lv_tableIn (tgt := 361) (off := 329) hx hb d_law_32 (by decide +kernel) (by decide +kernel) (by decide +kernel) (by decide) ?_
      exact lw_c7 l C0 St
    · refine lv_tableIn (tgt := 394) (off := 362) hx hb d_law_32 (by decide +kernel) (by decide +kernel) (by decide +kernel) (by decide) ?_
      exact lw_c8 l C0 St
    · refine lv_tableIn (tgt := 427) (off := 395) hx hb d_law_32 (by decide +kernel) (by decide +kernel) (by decide +kernel) (by decide) ?_
      exact lw_c9 l C0 St
    · refine lv_tableIn (tgt := 450) (off := 418) hx hb d_law_32 (by decide +kernel) (by decide +kernel) (by decide +kernel) (by decide) ?_
      exact lw_c10 l C0 St
    · refine lv_tableIn (tgt := 473) (off := 441) hx hb d_law_32 (by decide +kernel) (by decide +kernel) (by decide +kernel) (by decide) ?_
      exact lw_c11 l C0 St
    · refine lv_tableIn (tgt := 506) (off := 474) hx hb d_law_32 (by decide +kernel) (by decide +kernel) (by decide +kernel) (by decide) ?_
      exact lw_c12 l C0 St
    · refine lv_tableIn (tgt := 539) (off := 507) hx hb d_law_32 (by decide +kernel) (by decide +kernel) (by decide +kernel) (by decide) ?_
      exact lw_c13 l C0 St
    · refine lv_tableIn (tgt := 602) (off := 570) hx hb d_law_32 (by decide +kernel) (by decide +kernel) (by decide +kernel) (by decide) ?_
      exact lw_c14 l C0 St
    · refine lv_tableIn (tgt := 615) (off := 583) hx hb d_law_32 (by decide +kernel) (by decide +kernel) (by decide +kernel) (by decide) ?_
      exact lw_c15 l C0 St
    · refine lv_tableIn (tgt := 638) (off := 606) hx hb d_law_32 (by decide +kernel) (by decide +kernel) (by decide +kernel) (by decide) ?_
      exact lw_c16 l C0 St
    · refine lv_tableIn (tgt := 661) (off := 629) hx hb d_law_32 (by decide +kernel) (by decide +kernel) (by decide +kernel) (by decide) ?_
      exact lw_c17 l C0 St
  · refine lw_exit C0 hS hl ?_
    have h3 : L = 0 ∨ L = 1 ∨ L = 2 ∨ L = 3 := by omega
    rcases h3 with rfl | rfl | rfl | rfl <;> decide +kernel
