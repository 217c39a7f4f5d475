/-! the constructor of the class itself -/
theorem ws_D {cA : Bool → ClassId} {ad : Nat → Nat} {x : ai_H} : ai_ws cA ad shD x = [(ad 0, .inr (0, [.ref (ad 1), .ref (ad 2), .ref (ad 3), .ref (ad 4), .ref (ad 5), .ref (ad 6), .ref (ad 7), .ref (ad 8), .ref (ad 9), .ref (ad 10), .ref (ad 11), .int (x 0 11)])), (ad 1, .inl (cA false, 12, .inl (x 1))), (ad 2, .inl (cA false, 12, .inl (x 2))), (ad 3, .inl (cA false, 12, .inl (x 3))), (ad 4, .inl (cA false, 12, .inl (x 4))), (ad 5, .inl (cA false, 12, .inl (x 5))), (ad 6, .inl (cA false, 108, .inl (x 6))), (ad 7, .inl (cA false, 36, .inl (x 7))), (ad 8, .inl (cA false, 36, .inl (x 8))), (ad 9, .inl (cA false, 36, .inl (x 9))), (ad 10, .inl (cA false, 12, .inl (x 10))), (ad 11, .inl (cA false, 12, .inl (x 11)))] := rfl
theorem ws_T {cA : Bool → ClassId} {ad : Nat → Nat} {x : ai_H} : ai_ws cA ad shT x = [(ad 0, .inr (6, [.ref (ad 9), .ref (ad 1), .ref (ad 2), .ref (ad 3), .ref (ad 4), .ref (ad 5), .ref (ad 6), .ref (ad 7), .ref (ad 8), .int (x 0 9), .int (x 0 10), .int (x 0 11), .int (x 0 12)])), (ad 1, .inl (cA false, 512, .inl (x 1))), (ad 2, .inl (cA false, 512, .inl (x 2))), (ad 3, .inl (cA false, 512, .inl (x 3))), (ad 4, .inl (cA false, 512, .inl (x 4))), (ad 5, .inl (cA false, 1536, .inl (x 5))), (ad 6, .inl (cA false, 512, .inl (x 6))), (ad 7, .inl (cA true, 512, .inl (x 7))), (ad 8, .inl (cA true, 512, .inl (x 8)))] := rfl
theorem ws_F {cA : Bool → ClassId} {ad : Nat → Nat} {x : ai_H} : ai_ws cA ad shF x = [(ad 0, .inr (1, [.ref (ad 1), .ref (ad 2)]))] := rfl
theorem ws_O {cA : Bool → ClassId} {ad : Nat → Nat} {x : ai_H} : ai_ws cA ad shO x = [(ad 0, .inr (2, [.ref (ad 1), .ref (ad 2), .ref (ad 3)]))] := rfl
theorem ws_U {cA : Bool → ClassId} {ad : Nat → Nat} {x : ai_H} : ai_ws cA ad shU x = [(ad 0, .inr (5, [.ref (ad 1), .ref (ad 2), .ref (ad 3), .ref (ad 4)]))] := rfl
theorem ws_E {cA : Bool → ClassId} {ad : Nat → Nat} {x : ai_H} : ai_ws cA ad shE x = [(ad 0, .inr (4, [.ref (ad 2), .ref (ad 3), .ref (ad 4), .ref (ad 1), .int (x 0 4), .int (x 0 5), .int (x 0 6)])), (ad 1, .inl (cA false, 100, .inl (x 1)))] := rfl
theorem ws_P {cA : Bool → ClassId} {ad : Nat → Nat} {x : ai_H} : ai_ws cA ad shP x = [(ad 0, .inr (3, [.ref (ad 3), .ref (ad 1), .ref (ad 2), .int (x 0 3), .int (x 0 4)])), (ad 1, .inl (cA false, 200, .inl (x 1))), (ad 2, .inl (cA false, 200, .inl (x 2)))] := rfl
theorem ab_g_none : ∀ (G : ab_G) (k j : Nat), (∀ e ∈ G, e.1 ≠ k) → ab_g G k j = (2147483648, 2147483648)
  | [], _, _, _ => rfl
  | (a, i, lo, hi) :: G, k, j, h => by
    have h1 : a ≠ k := h (a, i, lo, hi) List.mem_cons_self
    have h2 : Nat.beq a k = false := by
      cases hb : Nat.beq a k with
      | false => rfl
      | true => exact absurd (Nat.eq_of_beq_eq_true hb) h1
    show (bif Nat.beq a k && Nat.beq i j then (lo, hi) else ab_g G k j) = _
    rw [h2]
    exact ab_g_none G k j (fun e he => h e (List.mem_cons_of_mem _ he))
theorem ab_g_lo {n : Nat} : ∀ (G2 G1 : ab_G) (k j : Nat), k < n → ab_g (G2.map (fun e => (e.1 + n, e.2)) ++ G1) k j = ab_g G1 k j
  | [], _, _, _, _ => rfl
  | (a, i, lo, hi) :: G2, G1, k, j, h => by
    have h2 : Nat.beq (a + n) k = false := by
      cases hb : Nat.beq (a + n) k with
      | false => rfl
      | true => exact absurd (Nat.eq_of_beq_eq_true hb) (by omega)
    show (bif Nat.beq (a + n) k && Nat.beq i j then (lo, hi) else ab_g (G2.map (fun e => (e.1 + n, e.2)) ++ G1) k j) = _
    rw [h2]
    exact ab_g_lo G2 G1 k j h
theorem ab_g_hi {n : Nat} : ∀ (G2 G1 : ab_G) (k j : Nat), (∀ e ∈ G1, e.1 < n) → ab_g (G2.map (fun e => (e.1 + n, e.2)) ++ G1) (k + n) j = ab_g G2 k j
  | [], G1, k, j, h => ab_g_none G1 (k + n) j (fun e he z => by have := h e he; omega)
  | (a, i, lo, hi) :: G2, G1, k, j, h => by
    show (bif Nat.beq (a + n) (k + n) && Nat.beq i j then (lo, hi) else ab_g (G2.map (fun e => (e.1 + n, e.2)) ++ G1) (k + n) j) = (bif Nat.beq a k && Nat.beq i j then (lo, hi) else ab_g G2 k j)
    have h2 : Nat.beq (a + n) (k + n) = Nat.beq a k := by
      cases hb : Nat.beq a k with
      | false =>
        cases hc : Nat.beq (a + n) (k + n) with
        | false => rfl
        | true =>
          have := Nat.eq_of_beq_eq_true hc
          have e : a = k := by omega
          subst e
          rw [Nat.beq_refl] at hb
          cases hb
      | true =>
        have := Nat.eq_of_beq_eq_true hb
        subst this
        exact Nat.beq_refl _
    rw [h2, ab_g_hi G2 G1 k j h]
def ab_jn (n : Nat) (h1 h2 : ai_H) : ai_H := fun k => if k < n then h1 k else h2 (k - n)
theorem ab_h_jn {n : Nat} {G1 G2 : ab_G} {h1 h2 : ai_H} (a : ab_h G1 h1) (b : ab_h G2 h2) (c : G1.all (fun e => Nat.ble (e.1 + 1) n) = true) : ab_h (G2.map (fun e => (e.1 + n, e.2)) ++ G1) (ab_jn n h1 h2) := by
  have hc : ∀ e ∈ G1, e.1 < n := fun e he => Nat.le_of_ble_eq_true (List.all_eq_true.mp c e he)
  intro k j
  by_cases hk : k < n
  · rw [ab_g_lo G2 G1 k j hk]
    show ab_in _ ((if k < n then h1 k else h2 (k - n)) j)
    rw [if_pos hk]
    exact a k j
  · obtain ⟨k', rfl⟩ : ∃ k', k = k' + n := ⟨k - n, by omega⟩
    rw [ab_g_hi G2 G1 k' j hc]
    show ab_in _ ((if k' + n < n then h1 (k' + n) else h2 (k' + n - n)) j)
    rw [if_neg hk, Nat.add_sub_cancel]
    exact b k' j
theorem dC_0 : decode cX7_init 0 = .ok (.aload_n 0, 1) := by decide +kernel
theorem dC_1 : decode cX7_init 1 = .ok (.invokespecial 1, 3) := by decide +kernel
theorem dC_4 : decode cX7_init 4 = .ok (.aload_n 0, 1) := by decide +kernel
theorem dC_5 : decode cX7_init 5 = .ok (.new 7, 3) := by decide +kernel
theorem dC_8 : decode cX7_init 8 = .ok (.dup, 1) := by decide +kernel
theorem dC_9 : decode cX7_init 9 = .ok (.invokespecial 9, 3) := by decide +kernel
theorem dC_12 : decode cX7_init 12 = .ok (.putfield 10, 3) := by decide +kernel
theorem dC_15 : decode cX7_init 15 = .ok (.aload_n 0, 1) := by decide +kernel
theorem dC_16 : decode cX7_init 16 = .ok (.new 16, 3) := by decide +kernel
theorem dC_19 : decode cX7_init 19 = .ok (.dup, 1) := by decide +kernel
theorem dC_20 : decode cX7_init 20 = .ok (.aload_n 0, 1) := by decide +kernel
theorem dC_21 : decode cX7_init 21 = .ok (.getfield 10, 3) := by decide +kernel
theorem dC_24 : decode cX7_init 24 = .ok (.invokespecial 18, 3) := by decide +kernel
theorem dC_27 : decode cX7_init 27 = .ok (.putfield 21, 3) := by decide +kernel
theorem dC_30 : decode cX7_init 30 = .ok (.aload_n 0, 1) := by decide +kernel
theorem dC_31 : decode cX7_init 31 = .ok (.new 25, 3) := by decide +kernel
theorem dC_34 : decode cX7_init 34 = .ok (.dup, 1) := by decide +kernel
theorem dC_35 : decode cX7_init 35 = .ok (.aload_n 0, 1) := by decide +kernel
theorem dC_36 : decode cX7_init 36 = .ok (.getfield 10, 3) := by decide +kernel
theorem dC_39 : decode cX7_init 39 = .ok (.aload_n 0, 1) := by decide +kernel
theorem dC_40 : decode cX7_init 40 = .ok (.getfield 21, 3) := by decide +kernel
theorem dC_43 : decode cX7_init 43 = .ok (.invokespecial 27, 3) := by decide +kernel
theorem dC_46 : decode cX7_init 46 = .ok (.putfield 30, 3) := by decide +kernel
theorem dC_49 : decode cX7_init 49 = .ok (.aload_n 0, 1) := by decide +kernel
theorem dC_50 : decode cX7_init 50 = .ok (.new 34, 3) := by decide +kernel
theorem dC_53 : decode cX7_init 53 = .ok (.dup, 1) := by decide +kernel
theorem dC_54 : decode cX7_init 54 = .ok (.aload_n 0, 1) := by decide +kernel
theorem dC_55 : decode cX7_init 55 = .ok (.getfield 10, 3) := by decide +kernel
theorem dC_58 : decode cX7_init 58 = .ok (.aload_n 0, 1) := by decide +kernel
theorem dC_59 : decode cX7_init 59 = .ok (.getfield 21, 3) := by decide +kernel
theorem dC_62 : decode cX7_init 62 = .ok (.aload_n 0, 1) := by decide +kernel
theorem dC_63 : decode cX7_init 63 = .ok (.getfield 30, 3) := by decide +kernel
theorem dC_66 : decode cX7_init 66 = .ok (.invokespecial 36, 3) := by decide +kernel
theorem dC_69 : decode cX7_init 69 = .ok (.putfield 39, 3) := by decide +kernel
theorem dC_72 : decode cX7_init 72 = .ok (.aload_n 0, 1) := by decide +kernel
theorem dC_73 : decode cX7_init 73 = .ok (.new 43, 3) := by decide +kernel
theorem dC_76 : decode cX7_init 76 = .ok (.dup, 1) := by decide +kernel
theorem dC_77 : decode cX7_init 77 = .ok (.aload_n 0, 1) := by decide +kernel
theorem dC_78 : decode cX7_init 78 = .ok (.getfield 10, 3) := by decide +kernel
theorem dC_81 : decode cX7_init 81 = .ok (.aload_n 0, 1) := by decide +kernel
theorem dC_82 : decode cX7_init 82 = .ok (.getfield 21, 3) := by decide +kernel
theorem dC_85 : decode cX7_init 85 = .ok (.aload_n 0, 1) := by decide +kernel
theorem dC_86 : decode cX7_init 86 = .ok (.getfield 30, 3) := by decide +kernel
theorem dC_89 : decode cX7_init 89 = .ok (.aload_n 0, 1) := by decide +kernel
theorem dC_90 : decode cX7_init 90 = .ok (.getfield 39, 3) := by decide +kernel
theorem dC_93 : decode cX7_init 93 = .ok (.invokespecial 45, 3) := by decide +kernel
theorem dC_96 : decode cX7_init 96 = .ok (.putfield 48, 3) := by decide +kernel
theorem dC_99 : decode cX7_init 99 = .ok (.aload_n 0, 1) := by decide +kernel
theorem dC_100 : decode cX7_init 100 = .ok (.new 52, 3) := by decide +kernel
theorem dC_103 : decode cX7_init 103 = .ok (.dup, 1) := by decide +kernel
theorem dC_104 : decode cX7_init 104 = .ok (.aload_n 0, 1) := by decide +kernel
theorem dC_105 : decode cX7_init 105 = .ok (.getfield 10, 3) := by decide +kernel
theorem dC_108 : decode cX7_init 108 = .ok (.aload_n 0, 1) := by decide +kernel
theorem dC_109 : decode cX7_init 109 = .ok (.getfield 21, 3) := by decide +kernel
theorem dC_112 : decode cX7_init 112 = .ok (.aload_n 0, 1) := by decide +kernel
theorem dC_113 : decode cX7_init 113 = .ok (.getfield 48, 3) := by decide +kernel
theorem dC_116 : decode cX7_init 116 = .ok (.invokespecial 54, 3) := by decide +kernel
theorem dC_119 : decode cX7_init 119 = .ok (.putfield 57, 3) := by decide +kernel
theorem dC_122 : decode cX7_init 122 = .ok (.aload_n 0, 1) := by decide +kernel
theorem dC_123 : decode cX7_init 123 = .ok (.new 61, 3) := by decide +kernel
theorem dC_126 : decode cX7_init 126 = .ok (.dup, 1) := by decide +kernel
theorem dC_127 : decode cX7_init 127 = .ok (.aload_n 0, 1) := by decide +kernel
theorem dC_128 : decode cX7_init 128 = .ok (.getfield 21, 3) := by decide +kernel
theorem dC_131 : decode cX7_init 131 = .ok (.invokespecial 63, 3) := by decide +kernel
theorem dC_134 : decode cX7_init 134 = .ok (.putfield 66, 3) := by decide +kernel
theorem dC_137 : decode cX7_init 137 = .ok (.aload_n 0, 1) := by decide +kernel
theorem dC_138 : decode cX7_init 138 = .ok (.iconst 3, 1) := by decide +kernel
theorem dC_139 : decode cX7_init 139 = .ok (.newarray .int, 2) := by decide +kernel
theorem dC_141 : decode cX7_init 141 = .ok (.putfield 70, 3) := by decide +kernel
theorem dd_D : ∀ j, j < 12 → (parseFieldDescriptor (TX0 j).2.2.1).map defaultValue = some (vp_V [.null, .null, .null, .null, .null, .null, .null, .null, .null, .null, .null, .int 0] j) := by decide +kernel
theorem wl_D : Cond.classLink RX7 7 RX0 ∈ lw_tbl ∧ Cond.instantiable RX0 12 ∈ lw_tbl ∧ Cond.initialized RX0 ∈ lw_tbl := ⟨List.mem_of_getElem? (i := 92) (by decide +kernel), List.mem_of_getElem? (i := 93) (by decide +kernel), List.mem_of_getElem? (i := 74) (by decide +kernel)⟩
theorem wm_D : Cond.methodLink RX7 9 yX0_init ∈ lw_tbl ∧ Cond.instanceMethod yX0_init ∈ lw_tbl ∧ Cond.code yX0_init cX0_init 1 none ∈ lw_tbl := ⟨List.mem_of_getElem? (i := 94) (by decide +kernel), List.mem_of_getElem? (i := 95) (by decide +kernel), List.mem_of_getElem? (i := 96) (by decide +kernel)⟩
theorem wy_D : yX0_init.cls ≠ "java/lang/invoke/MethodHandle" ∧ yX0_init.cls ≠ "java/lang/invoke/VarHandle" ∧ (parseMethodDescriptor yX0_init.desc).map (fun d => d.parameters.length) = some 0 := by decide +kernel
theorem dd_T : ∀ j, j < 13 → (parseFieldDescriptor (TX6 j).2.2.1).map defaultValue = some (vp_V [.null, .null, .null, .null, .null, .null, .null, .null, .null, .int 0, .int 0, .int 0, .int 0] j) := by decide +kernel
theorem wl_T : Cond.classLink RX7 16 RX6 ∈ lw_tbl ∧ Cond.instantiable RX6 13 ∈ lw_tbl ∧ Cond.initialized RX6 ∈ lw_tbl := ⟨List.mem_of_getElem? (i := 137) (by decide +kernel), List.mem_of_getElem? (i := 138) (by decide +kernel), List.mem_of_getElem? (i := 75) (by decide +kernel)⟩
theorem wm_T : Cond.methodLink RX7 18 yX6_init ∈ lw_tbl ∧ Cond.instanceMethod yX6_init ∈ lw_tbl ∧ Cond.code yX6_init cX6_init 3 none ∈ lw_tbl := ⟨List.mem_of_getElem? (i := 139) (by decide +kernel), List.mem_of_getElem? (i := 140) (by decide +kernel), List.mem_of_getElem? (i := 141) (by decide +kernel)⟩
theorem wy_T : yX6_init.cls ≠ "java/lang/invoke/MethodHandle" ∧ yX6_init.cls ≠ "java/lang/invoke/VarHandle" ∧ (parseMethodDescriptor yX6_init.desc).map (fun d => d.parameters.length) = some 1 := by decide +kernel
theorem gk_T : ac_gok RX7 cX7_init TX7 9 20 [(0, 10, 286)] = true := by decide +kernel
theorem dd_F : ∀ j, j < 2 → (parseFieldDescriptor (TX1 j).2.2.1).map defaultValue = some (vp_V [.null, .null] j) := by decide +kernel
theorem wl_F : Cond.classLink RX7 25 RX1 ∈ lw_tbl ∧ Cond.instantiable RX1 2 ∈ lw_tbl ∧ Cond.initialized RX1 ∈ lw_tbl := ⟨List.mem_of_getElem? (i := 188) (by decide +kernel), List.mem_of_getElem? (i := 189) (by decide +kernel), List.mem_of_getElem? (i := 76) (by decide +kernel)⟩
theorem wm_F : Cond.methodLink RX7 27 yX1_init ∈ lw_tbl ∧ Cond.instanceMethod yX1_init ∈ lw_tbl ∧ Cond.code yX1_init cX1_init 3 none ∈ lw_tbl := ⟨List.mem_of_getElem? (i := 190) (by decide +kernel), List.mem_of_getElem? (i := 191) (by decide +kernel), List.mem_of_getElem? (i := 192) (by decide +kernel)⟩
theorem wy_F : yX1_init.cls ≠ "java/lang/invoke/MethodHandle" ∧ yX1_init.cls ≠ "java/lang/invoke/VarHandle" ∧ (parseMethodDescriptor yX1_init.desc).map (fun d => d.parameters.length) = some 2 := by decide +kernel
theorem gk_F : ac_gok RX7 cX7_init TX7 9 35 [(0, 10, 286), (1, 21, 287)] = true := by decide +kernel
theorem dd_O : ∀ j, j < 3 → (parseFieldDescriptor (TX2 j).2.2.1).map defaultValue = some (vp_V [.null, .null, .null] j) := by decide +kernel
theorem wl_O : Cond.classLink RX7 34 RX2 ∈ lw_tbl ∧ Cond.instantiable RX2 3 ∈ lw_tbl ∧ Cond.initialized RX2 ∈ lw_tbl := ⟨List.mem_of_getElem? (i := 201) (by decide +kernel), List.mem_of_getElem? (i := 202) (by decide +kernel), List.mem_of_getElem? (i := 77) (by decide +kernel)⟩
theorem wm_O : Cond.methodLink RX7 36 yX2_init ∈ lw_tbl ∧ Cond.instanceMethod yX2_init ∈ lw_tbl ∧ Cond.code yX2_init cX2_init 4 none ∈ lw_tbl := ⟨List.mem_of_getElem? (i := 203) (by decide +kernel), List.mem_of_getElem? (i := 204) (by decide +kernel), List.mem_of_getElem? (i := 205) (by decide +kernel)⟩
theorem wy_O : yX2_init.cls ≠ "java/lang/invoke/MethodHandle" ∧ yX2_init.cls ≠ "java/lang/invoke/VarHandle" ∧ (parseMethodDescriptor yX2_init.desc).map (fun d => d.parameters.length) = some 3 := by decide +kernel
theorem gk_O : ac_gok RX7 cX7_init TX7 9 54 [(0, 10, 286), (1, 21, 287), (2, 30, 288)] = true := by decide +kernel
theorem dd_U : ∀ j, j < 4 → (parseFieldDescriptor (TX5 j).2.2.1).map defaultValue = some (vp_V [.null, .null, .null, .null] j) := by decide +kernel
theorem wl_U : Cond.classLink RX7 43 RX5 ∈ lw_tbl ∧ Cond.instantiable RX5 4 ∈ lw_tbl ∧ Cond.initialized RX5 ∈ lw_tbl := ⟨List.mem_of_getElem? (i := 217) (by decide +kernel), List.mem_of_getElem? (i := 218) (by decide +kernel), List.mem_of_getElem? (i := 78) (by decide +kernel)⟩
theorem wm_U : Cond.methodLink RX7 45 yX5_init ∈ lw_tbl ∧ Cond.instanceMethod yX5_init ∈ lw_tbl ∧ Cond.code yX5_init cX5_init 5 none ∈ lw_tbl := ⟨List.mem_of_getElem? (i := 219) (by decide +kernel), List.mem_of_getElem? (i := 220) (by decide +kernel), List.mem_of_getElem? (i := 221) (by decide +kernel)⟩
theorem wy_U : yX5_init.cls ≠ "java/lang/invoke/MethodHandle" ∧ yX5_init.cls ≠ "java/lang/invoke/VarHandle" ∧ (parseMethodDescriptor yX5_init.desc).map (fun d => d.parameters.length) = some 4 := by decide +kernel
theorem gk_U : ac_gok RX7 cX7_init TX7 9 77 [(0, 10, 286), (1, 21, 287), (2, 30, 288), (3, 39, 289)] = true := by decide +kernel
theorem dd_E : ∀ j, j < 7 → (parseFieldDescriptor (TX4 j).2.2.1).map defaultValue = some (vp_V [.null, .null, .null, .null, .int 0, .int 0, .int 0] j) := by decide +kernel
theorem wl_E : Cond.classLink RX7 52 RX4 ∈ lw_tbl ∧ Cond.instantiable RX4 7 ∈ lw_tbl ∧ Cond.initialized RX4 ∈ lw_tbl := ⟨List.mem_of_getElem? (i := 236) (by decide +kernel), List.mem_of_getElem? (i := 237) (by decide +kernel), List.mem_of_getElem? (i := 79) (by decide +kernel)⟩
theorem wm_E : Cond.methodLink RX7 54 yX4_init ∈ lw_tbl ∧ Cond.instanceMethod yX4_init ∈ lw_tbl ∧ Cond.code yX4_init cX4_init 4 none ∈ lw_tbl := ⟨List.mem_of_getElem? (i := 238) (by decide +kernel), List.mem_of_getElem? (i := 239) (by decide +kernel), List.mem_of_getElem? (i := 240) (by decide +kernel)⟩
theorem wy_E : yX4_init.cls ≠ "java/lang/invoke/MethodHandle" ∧ yX4_init.cls ≠ "java/lang/invoke/VarHandle" ∧ (parseMethodDescriptor yX4_init.desc).map (fun d => d.parameters.length) = some 3 := by decide +kernel
theorem gk_E : ac_gok RX7 cX7_init TX7 9 104 [(0, 10, 286), (1, 21, 287), (4, 48, 290)] = true := by decide +kernel
theorem dd_P : ∀ j, j < 5 → (parseFieldDescriptor (TX3 j).2.2.1).map defaultValue = some (vp_V [.null, .null, .null, .int 0, .int 0] j) := by decide +kernel
theorem wl_P : Cond.classLink RX7 61 RX3 ∈ lw_tbl ∧ Cond.instantiable RX3 5 ∈ lw_tbl ∧ Cond.initialized RX3 ∈ lw_tbl := ⟨List.mem_of_getElem? (i := 264) (by decide +kernel), List.mem_of_getElem? (i := 265) (by decide +kernel), List.mem_of_getElem? (i := 80) (by decide +kernel)⟩
theorem wm_P : Cond.methodLink RX7 63 yX3_init ∈ lw_tbl ∧ Cond.instanceMethod yX3_init ∈ lw_tbl ∧ Cond.code yX3_init cX3_init 2 none ∈ lw_tbl := ⟨List.mem_of_getElem? (i := 266) (by decide +kernel), List.mem_of_getElem? (i := 267) (by decide +kernel), List.mem_of_getElem? (i := 268) (by decide +kernel)⟩
theorem wy_P : yX3_init.cls ≠ "java/lang/invoke/MethodHandle" ∧ yX3_init.cls ≠ "java/lang/invoke/VarHandle" ∧ (parseMethodDescriptor yX3_init.desc).map (fun d => d.parameters.length) = some 1 := by decide +kernel
theorem gk_P : ac_gok RX7 cX7_init TX7 9 127 [(1, 21, 287)] = true := by decide +kernel
def opC : List ac_Op := [(7, 70, 293, .inl (.iconst 3, 1, 3, 3, false))]
theorem ao_C : ac_ok RX7 cX7_init TX7 9 1 137 opC 144 = true := by decide +kernel
theorem ak_C : kiC.all (fun e => ai_okb mtC RX7 cX7_init none e.1 e.2) = true := by decide +kernel
theorem aw_C : Cond.methodLink RX7 1 Lib.objectInit ∈ lw_tbl := List.mem_of_getElem? (i := 89) (by decide +kernel)
def gB : ab_G := gT.map (fun e => (e.1 + 12, e.2)) ++ gD
theorem ruC : ab_e shC mciC (ab_ec shC mciC mlC cdC 300 0) (ai_lu kiC) 100 144 (ab_ent 1 [.inl 29]) [] gB = some (none, gC) := by decide +kernel
def adC (h0 q : Nat) (pD pT pF pO pU pE pP : Nat → Nat) : Nat → Nat := fun k => match k with
  | 0 => pD 0
  | 1 => pD 1
  | 2 => pD 2
  | 3 => pD 3
  | 4 => pD 4
  | 5 => pD 5
  | 6 => pD 6
  | 7 => pD 7
  | 8 => pD 8
  | 9 => pD 9
  | 10 => pD 10
  | 11 => pD 11
  | 12 => pT 0
  | 13 => pT 1
  | 14 => pT 2
  | 15 => pT 3
  | 16 => pT 4
  | 17 => pT 5
  | 18 => pT 6
  | 19 => pT 7
  | 20 => pT 8
  | 21 => pF 0
  | 22 => pO 0
  | 23 => pU 0
  | 24 => pE 0
  | 25 => pE 1
  | 26 => pP 0
  | 27 => pP 1
  | 28 => pP 2
  | 29 => h0
  | _ => q
def hiC (xD xT xE xP : ai_H) : ai_H := ab_jn 29 (ab_jn 26 (ab_jn 24 (ab_jn 12 xD xT) xE) xP) (fun _ _ => 0)
theorem hiC_ok {xD xT xE xP : ai_H} (a : ab_h gD xD) (b : ab_h gT xT) (c : ab_h [] xE) (d : ab_h [] xP) : ab_h gB (hiC xD xT xE xP) := by
  have h1 : ab_h gB (ab_jn 12 xD xT) := ab_h_jn (n := 12) a b (by decide +kernel)
  have h2 : ab_h gB (ab_jn 24 (ab_jn 12 xD xT) xE) := ab_h_jn (n := 24) (G2 := []) h1 c (by decide +kernel)
  have h3 : ab_h gB (ab_jn 26 (ab_jn 24 (ab_jn 12 xD xT) xE) xP) := ab_h_jn (n := 26) (G2 := []) h2 d (by decide +kernel)
  exact ab_h_jn (n := 29) (G2 := []) h3 ab_zero (by decide +kernel)
def ac_ff (ad : Nat → Nat) (h : ai_H) (k : Nat) : Nat → List (Option Nat) → List Value
  | _, [] => []
  | j, f :: fs => ai_fv ad h k j f :: ac_ff ad h k (j + 1) fs
def ac_cf (cA : Bool → ClassId) (ad : Nat → Nat) (h : ai_H) (k : Nat) (c : (Bool × Nat) ⊕ (Nat × List (Option Nat))) : Nat × va_E := (ad k, match c with
  | .inl (z, n) => .inl (cA z, n, .inl (h k))
  | .inr (ci, fs) => .inr (ci, ac_ff ad h k 0 fs))
def ac_wf (cA : Bool → ClassId) (ad : Nat → Nat) (h : ai_H) : Nat → ai_Sh → va_W
  | _, [] => []
  | k, c :: sh => ac_cf cA ad h k c :: ac_wf cA ad h (k + 1) sh
theorem ac_ff_ok {ad : Nat → Nat} {h : ai_H} {k : Nat} : ∀ (fs : List (Option Nat)) (j : Nat), fs.mapIdx (fun i => ai_fv ad h k (i + j)) = ac_ff ad h k j fs
  | [], _ => rfl
  | f :: fs, j => by
    rw [List.mapIdx_cons, ac_ff, ← ac_ff_ok fs (j + 1), Nat.zero_add]
    congr 2
    funext i
    rw [show i + 1 + j = i + (j + 1) by omega]
theorem ac_cf_ok {cA : Bool → ClassId} {ad : Nat → Nat} {h : ai_H} (k : Nat) (c : (Bool × Nat) ⊕ (Nat × List (Option Nat))) : ai_cell cA ad h k c = ac_cf cA ad h k c := by
  rcases c with c | c
  · rfl
  · obtain ⟨ci, fs⟩ := c
    have e : fs.mapIdx (ai_fv ad h k) = ac_ff ad h k 0 fs := ac_ff_ok fs 0
    show (ad k, (.inr (ci, fs.mapIdx (ai_fv ad h k)) : va_E)) = _
    rw [e]
    rfl
theorem ac_wf_ok {cA : Bool → ClassId} {ad : Nat → Nat} {h : ai_H} : ∀ (sh : ai_Sh) (k : Nat), sh.mapIdx (fun i => ai_cell cA ad h (i + k)) = ac_wf cA ad h k sh
  | [], _ => rfl
  | c :: sh, k => by
    rw [List.mapIdx_cons, ac_wf, ← ac_wf_ok sh (k + 1), Nat.zero_add, ac_cf_ok]
    congr 2
    funext i
    rw [show i + 1 + k = i + (k + 1) by omega]
theorem ac_ws_wf {cA : Bool → ClassId} {ad : Nat → Nat} {h : ai_H} (sh : ai_Sh) : ai_ws cA ad sh h = ac_wf cA ad h 0 sh := ac_wf_ok sh 0
theorem ws_C {cA : Bool → ClassId} {ad : Nat → Nat} {x : ai_H} : ai_ws cA ad shC x = [(ad 0, .inr (0, [.ref (ad 1), .ref (ad 2), .ref (ad 3), .ref (ad 4), .ref (ad 5), .ref (ad 6), .ref (ad 7), .ref (ad 8), .ref (ad 9), .ref (ad 10), .ref (ad 11), .int (x 0 11)])), (ad 1, .inl (cA false, 12, .inl (x 1))), (ad 2, .inl (cA false, 12, .inl (x 2))), (ad 3, .inl (cA false, 12, .inl (x 3))), (ad 4, .inl (cA false, 12, .inl (x 4))), (ad 5, .inl (cA false, 12, .inl (x 5))), (ad 6, .inl (cA false, 108, .inl (x 6))), (ad 7, .inl (cA false, 36, .inl (x 7))), (ad 8, .inl (cA false, 36, .inl (x 8))), (ad 9, .inl (cA false, 36, .inl (x 9))), (ad 10, .inl (cA false, 12, .inl (x 10))), (ad 11, .inl (cA false, 12, .inl (x 11))), (ad 12, .inr (6, [.ref (ad 0), .ref (ad 13), .ref (ad 14), .ref (ad 15), .ref (ad 16), .ref (ad 17), .ref (ad 18), .ref (ad 19), .ref (ad 20), .int (x 12 9), .int (x 12 10), .int (x 12 11), .int (x 12 12)])), (ad 13, .inl (cA false, 512, .inl (x 13))), (ad 14, .inl (cA false, 512, .inl (x 14))), (ad 15, .inl (cA false, 512, .inl (x 15))), (ad 16, .inl (cA false, 512, .inl (x 16))), (ad 17, .inl (cA false, 1536, .inl (x 17))), (ad 18, .inl (cA false, 512, .inl (x 18))), (ad 19, .inl (cA true, 512, .inl (x 19))), (ad 20, .inl (cA true, 512, .inl (x 20))), (ad 21, .inr (1, [.ref (ad 0), .ref (ad 12)])), (ad 22, .inr (2, [.ref (ad 0), .ref (ad 12), .ref (ad 21)])), (ad 23, .inr (5, [.ref (ad 0), .ref (ad 12), .ref (ad 21), .ref (ad 22)])), (ad 24, .inr (4, [.ref (ad 0), .ref (ad 12), .ref (ad 23), .ref (ad 25), .int (x 24 4), .int (x 24 5), .int (x 24 6)])), (ad 25, .inl (cA false, 100, .inl (x 25))), (ad 26, .inr (3, [.ref (ad 12), .ref (ad 27), .ref (ad 28), .int (x 26 3), .int (x 26 4)])), (ad 27, .inl (cA false, 200, .inl (x 27))), (ad 28, .inl (cA false, 200, .inl (x 28))), (ad 29, .inr (7, [.ref (ad 0), .ref (ad 12), .ref (ad 21), .ref (ad 22), .ref (ad 23), .ref (ad 24), .ref (ad 26), .ref (ad 30), .int (x 29 8)])), (ad 30, .inl (cA false, 3, .inl (x 30)))] := by rw [ac_ws_wf]; rfl
theorem adC_0 {h0 q : Nat} {pD pT pF pO pU pE pP : Nat → Nat} : adC h0 q pD pT pF pO pU pE pP 0 = pD 0 := rfl
theorem hiC_0 {xD xT xE xP : ai_H} : hiC xD xT xE xP 0 = xD 0 := rfl
theorem adC_1 {h0 q : Nat} {pD pT pF pO pU pE pP : Nat → Nat} : adC h0 q pD pT pF pO pU pE pP 1 = pD 1 := rfl
theorem hiC_1 {xD xT xE xP : ai_H} : hiC xD xT xE xP 1 = xD 1 := rfl
theorem adC_2 {h0 q : Nat} {pD pT pF pO pU pE pP : Nat → Nat} : adC h0 q pD pT pF pO pU pE pP 2 = pD 2 := rfl
theorem hiC_2 {xD xT xE xP : ai_H} : hiC xD xT xE xP 2 = xD 2 := rfl
theorem adC_3 {h0 q : Nat} {pD pT pF pO pU pE pP : Nat → Nat} : adC h0 q pD pT pF pO pU pE pP 3 = pD 3 := rfl
theorem hiC_3 {xD xT xE xP : ai_H} : hiC xD xT xE xP 3 = xD 3 := rfl
theorem adC_4 {h0 q : Nat} {pD pT pF pO pU pE pP : Nat → Nat} : adC h0 q pD pT pF pO pU pE pP 4 = pD 4 := rfl
theorem hiC_4 {xD xT xE xP : ai_H} : hiC xD xT xE xP 4 = xD 4 := rfl
theorem adC_5 {h0 q : Nat} {pD pT pF pO pU pE pP : Nat → Nat} : adC h0 q pD pT pF pO pU pE pP 5 = pD 5 := rfl
theorem hiC_5 {xD xT xE xP : ai_H} : hiC xD xT xE xP 5 = xD 5 := rfl
theorem adC_6 {h0 q : Nat} {pD pT pF pO pU pE pP : Nat → Nat} : adC h0 q pD pT pF pO pU pE pP 6 = pD 6 := rfl
theorem hiC_6 {xD xT xE xP : ai_H} : hiC xD xT xE xP 6 = xD 6 := rfl
theorem adC_7 {h0 q : Nat} {pD pT pF pO pU pE pP : Nat → Nat} : adC h0 q pD pT pF pO pU pE pP 7 = pD 7 := rfl
theorem hiC_7 {xD xT xE xP : ai_H} : hiC xD xT xE xP 7 = xD 7 := rfl
theorem adC_8 {h0 q : Nat} {pD pT pF pO pU pE pP : Nat → Nat} : adC h0 q pD pT pF pO pU pE pP 8 = pD 8 := rfl
theorem hiC_8 {xD xT xE xP : ai_H} : hiC xD xT xE xP 8 = xD 8 := rfl
theorem adC_9 {h0 q : Nat} {pD pT pF pO pU pE pP : Nat → Nat} : adC h0 q pD pT pF pO pU pE pP 9 = pD 9 := rfl
theorem hiC_9 {xD xT xE xP : ai_H} : hiC xD xT xE xP 9 = xD 9 := rfl
theorem adC_10 {h0 q : Nat} {pD pT pF pO pU pE pP : Nat → Nat} : adC h0 q pD pT pF pO pU pE pP 10 = pD 10 := rfl
theorem hiC_10 {xD xT xE xP : ai_H} : hiC xD xT xE xP 10 = xD 10 := rfl
theorem adC_11 {h0 q : Nat} {pD pT pF pO pU pE pP : Nat → Nat} : adC h0 q pD pT pF pO pU pE pP 11 = pD 11 := rfl
theorem hiC_11 {xD xT xE xP : ai_H} : hiC xD xT xE xP 11 = xD 11 := rfl
theorem adC_12 {h0 q : Nat} {pD pT pF pO pU pE pP : Nat → Nat} : adC h0 q pD pT pF pO pU pE pP 12 = pT 0 := rfl
theorem hiC_12 {xD xT xE xP : ai_H} : hiC xD xT xE xP 12 = xT 0 := rfl
theorem adC_13 {h0 q : Nat} {pD pT pF pO pU pE pP : Nat → Nat} : adC h0 q pD pT pF pO pU pE pP 13 = pT 1 := rfl
theorem hiC_13 {xD xT xE xP : ai_H} : hiC xD xT xE xP 13 = xT 1 := rfl
theorem adC_14 {h0 q : Nat} {pD pT pF pO pU pE pP : Nat → Nat} : adC h0 q pD pT pF pO pU pE pP 14 = pT 2 := rfl
theorem hiC_14 {xD xT xE xP : ai_H} : hiC xD xT xE xP 14 = xT 2 := rfl
theorem adC_15 {h0 q : Nat} {pD pT pF pO pU pE pP : Nat → Nat} : adC h0 q pD pT pF pO pU pE pP 15 = pT 3 := rfl
theorem hiC_15 {xD xT xE xP : ai_H} : hiC xD xT xE xP 15 = xT 3 := rfl
theorem adC_16 {h0 q : Nat} {pD pT pF pO pU pE pP : Nat → Nat} : adC h0 q pD pT pF pO pU pE pP 16 = pT 4 := rfl
theorem hiC_16 {xD xT xE xP : ai_H} : hiC xD xT xE xP 16 = xT 4 := rfl
theorem adC_17 {h0 q : Nat} {pD pT pF pO pU pE pP : Nat → Nat} : adC h0 q pD pT pF pO pU pE pP 17 = pT 5 := rfl
theorem hiC_17 {xD xT xE xP : ai_H} : hiC xD xT xE xP 17 = xT 5 := rfl
theorem adC_18 {h0 q : Nat} {pD pT pF pO pU pE pP : Nat → Nat} : adC h0 q pD pT pF pO pU pE pP 18 = pT 6 := rfl
theorem hiC_18 {xD xT xE xP : ai_H} : hiC xD xT xE xP 18 = xT 6 := rfl
theorem adC_19 {h0 q : Nat} {pD pT pF pO pU pE pP : Nat → Nat} : adC h0 q pD pT pF pO pU pE pP 19 = pT 7 := rfl
theorem hiC_19 {xD xT xE xP : ai_H} : hiC xD xT xE xP 19 = xT 7 := rfl
theorem adC_20 {h0 q : Nat} {pD pT pF pO pU pE pP : Nat → Nat} : adC h0 q pD pT pF pO pU pE pP 20 = pT 8 := rfl
theorem hiC_20 {xD xT xE xP : ai_H} : hiC xD xT xE xP 20 = xT 8 := rfl
theorem adC_21 {h0 q : Nat} {pD pT pF pO pU pE pP : Nat → Nat} : adC h0 q pD pT pF pO pU pE pP 21 = pF 0 := rfl
theorem hiC_21 {xD xT xE xP : ai_H} : hiC xD xT xE xP 21 = xT 9 := rfl
theorem adC_22 {h0 q : Nat} {pD pT pF pO pU pE pP : Nat → Nat} : adC h0 q pD pT pF pO pU pE pP 22 = pO 0 := rfl
theorem hiC_22 {xD xT xE xP : ai_H} : hiC xD xT xE xP 22 = xT 10 := rfl
theorem adC_23 {h0 q : Nat} {pD pT pF pO pU pE pP : Nat → Nat} : adC h0 q pD pT pF pO pU pE pP 23 = pU 0 := rfl
theorem hiC_23 {xD xT xE xP : ai_H} : hiC xD xT xE xP 23 = xT 11 := rfl
theorem adC_24 {h0 q : Nat} {pD pT pF pO pU pE pP : Nat → Nat} : adC h0 q pD pT pF pO pU pE pP 24 = pE 0 := rfl
theorem hiC_24 {xD xT xE xP : ai_H} : hiC xD xT xE xP 24 = xE 0 := rfl
theorem adC_25 {h0 q : Nat} {pD pT pF pO pU pE pP : Nat → Nat} : adC h0 q pD pT pF pO pU pE pP 25 = pE 1 := rfl
theorem hiC_25 {xD xT xE xP : ai_H} : hiC xD xT xE xP 25 = xE 1 := rfl
theorem adC_26 {h0 q : Nat} {pD pT pF pO pU pE pP : Nat → Nat} : adC h0 q pD pT pF pO pU pE pP 26 = pP 0 := rfl
theorem hiC_26 {xD xT xE xP : ai_H} : hiC xD xT xE xP 26 = xP 0 := rfl
theorem adC_27 {h0 q : Nat} {pD pT pF pO pU pE pP : Nat → Nat} : adC h0 q pD pT pF pO pU pE pP 27 = pP 1 := rfl
theorem hiC_27 {xD xT xE xP : ai_H} : hiC xD xT xE xP 27 = xP 1 := rfl
theorem adC_28 {h0 q : Nat} {pD pT pF pO pU pE pP : Nat → Nat} : adC h0 q pD pT pF pO pU pE pP 28 = pP 2 := rfl
theorem hiC_28 {xD xT xE xP : ai_H} : hiC xD xT xE xP 28 = xP 2 := rfl
theorem adC_29 {h0 q : Nat} {pD pT pF pO pU pE pP : Nat → Nat} : adC h0 q pD pT pF pO pU pE pP 29 = h0 := rfl
theorem hiC_29 {xD xT xE xP : ai_H} : hiC xD xT xE xP 29 = fun _ => 0 := rfl
theorem adC_30 {h0 q : Nat} {pD pT pF pO pU pE pP : Nat → Nat} : adC h0 q pD pT pF pO pU pE pP 30 = q := rfl
theorem hiC_30 {xD xT xE xP : ai_H} : hiC xD xT xE xP 30 = fun _ => 0 := rfl
theorem ws_C2 {cA : Bool → ClassId} {h0 q : Nat} {pD pT pF pO pU pE pP : Nat → Nat} {xD xT xE xP : ai_H} : ai_ws cA (adC h0 q pD pT pF pO pU pE pP) shC (hiC xD xT xE xP) = [(pD 0, .inr (0, [.ref (pD 1), .ref (pD 2), .ref (pD 3), .ref (pD 4), .ref (pD 5), .ref (pD 6), .ref (pD 7), .ref (pD 8), .ref (pD 9), .ref (pD 10), .ref (pD 11), .int (xD 0 11)])), (pD 1, .inl (cA false, 12, .inl (xD 1))), (pD 2, .inl (cA false, 12, .inl (xD 2))), (pD 3, .inl (cA false, 12, .inl (xD 3))), (pD 4, .inl (cA false, 12, .inl (xD 4))), (pD 5, .inl (cA false, 12, .inl (xD 5))), (pD 6, .inl (cA false, 108, .inl (xD 6))), (pD 7, .inl (cA false, 36, .inl (xD 7))), (pD 8, .inl (cA false, 36, .inl (xD 8))), (pD 9, .inl (cA false, 36, .inl (xD 9))), (pD 10, .inl (cA false, 12, .inl (xD 10))), (pD 11, .inl (cA false, 12, .inl (xD 11))), (pT 0, .inr (6, [.ref (pD 0), .ref (pT 1), .ref (pT 2), .ref (pT 3), .ref (pT 4), .ref (pT 5), .ref (pT 6), .ref (pT 7), .ref (pT 8), .int (xT 0 9), .int (xT 0 10), .int (xT 0 11), .int (xT 0 12)])), (pT 1, .inl (cA false, 512, .inl (xT 1))), (pT 2, .inl (cA false, 512, .inl (xT 2))), (pT 3, .inl (cA false, 512, .inl (xT 3))), (pT 4, .inl (cA false, 512, .inl (xT 4))), (pT 5, .inl (cA false, 1536, .inl (xT 5))), (pT 6, .inl (cA false, 512, .inl (xT 6))), (pT 7, .inl (cA true, 512, .inl (xT 7))), (pT 8, .inl (cA true, 512, .inl (xT 8))), (pF 0, .inr (1, [.ref (pD 0), .ref (pT 0)])), (pO 0, .inr (2, [.ref (pD 0), .ref (pT 0), .ref (pF 0)])), (pU 0, .inr (5, [.ref (pD 0), .ref (pT 0), .ref (pF 0), .ref (pO 0)])), (pE 0, .inr (4, [.ref (pD 0), .ref (pT 0), .ref (pU 0), .ref (pE 1), .int (xE 0 4), .int (xE 0 5), .int (xE 0 6)])), (pE 1, .inl (cA false, 100, .inl (xE 1))), (pP 0, .inr (3, [.ref (pT 0), .ref (pP 1), .ref (pP 2), .int (xP 0 3), .int (xP 0 4)])), (pP 1, .inl (cA false, 200, .inl (xP 1))), (pP 2, .inl (cA false, 200, .inl (xP 2))), (h0, .inr (7, [.ref (pD 0), .ref (pT 0), .ref (pF 0), .ref (pO 0), .ref (pU 0), .ref (pE 0), .ref (pP 0), .ref (q), .int 0])), (q, .inl (cA false, 3, .inl (fun _ => 0)))] := by
  rw [ws_C]
  simp only [adC_0, adC_1, adC_2, adC_3, adC_4, adC_5, adC_6, adC_7, adC_8, adC_9, adC_10, adC_11, adC_12, adC_13, adC_14, adC_15, adC_16, adC_17, adC_18, adC_19, adC_20, adC_21, adC_22, adC_23, adC_24, adC_25, adC_26, adC_27, adC_28, adC_29, adC_30, hiC_0, hiC_1, hiC_2, hiC_3, hiC_4, hiC_5, hiC_6, hiC_7, hiC_8, hiC_9, hiC_10, hiC_11, hiC_12, hiC_13, hiC_14, hiC_15, hiC_16, hiC_17, hiC_18, hiC_19, hiC_20, hiC_21, hiC_22, hiC_23, hiC_24, hiC_25, hiC_26, hiC_27, hiC_28, hiC_29, hiC_30]
