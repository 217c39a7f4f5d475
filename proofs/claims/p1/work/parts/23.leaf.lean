/-! the constructors that make no object -/
def opM : List ac_Op := [(2, 7, 791, .inl (.sipush 6256, 3, 6256, 6256, false)), (3, 13, 792, .inl (.sipush 6256, 3, 6256, 6256, false)), (4, 16, 793, .inl (.sipush 6256, 3, 6256, 6256, false)), (5, 19, 794, .inl (.sipush 6256, 3, 6256, 6256, false)), (6, 22, 795, .inl (.sipush 6256, 3, 6256, 6256, false)), (7, 25, 796, .inl (.sipush 6256, 3, 6256, 6256, false)), (8, 28, 797, .inl (.sipush 6256, 3, 6256, 6256, false)), (9, 31, 798, .inl (.sipush 18768, 3, 18768, 18768, false)), (10, 34, 799, .inl (.sipush 18768, 3, 18768, 18768, false)), (11, 37, 800, .inl (.sipush 6256, 3, 6256, 6256, true)), (12, 41, 801, .inl (.sipush 6256, 3, 6256, 6256, false)), (14, 44, 803, .inl (.bipush 12, 2, 12, 12, false)), (15, 47, 804, .inl (.bipush 12, 2, 12, 12, false)), (16, 50, 805, .inl (.bipush 12, 2, 12, 12, false)), (17, 53, 806, .inl (.bipush 12, 2, 12, 12, false)), (18, 56, 807, .inl (.bipush 36, 2, 36, 36, false)), (19, 59, 808, .inl (.bipush 36, 2, 36, 36, false)), (20, 62, 809, .inl (.bipush 108, 2, 108, 108, false)), (22, 65, 811, .inl (.iconst 3, 1, 3, 3, false)), (23, 68, 812, .inl (.iconst 3, 1, 3, 3, false)), (25, 71, 814, .inl (.iconst 3, 1, 3, 3, false)), (26, 74, 815, .inl (.iconst 3, 1, 3, 3, false)), (28, 77, 817, .inl (.bipush 100, 2, 100, 100, false)), (30, 80, 819, .inl (.sipush 200, 3, 200, 200, false)), (31, 83, 820, .inl (.bipush 12, 2, 12, 12, false)), (34, 86, 823, .inl (.bipush 9, 2, 9, 9, false)), (35, 89, 824, .inl (.bipush 9, 2, 9, 9, false)), (36, 92, 825, .inl (.bipush 9, 2, 9, 9, false)), (37, 95, 826, .inl (.bipush 9, 2, 9, 9, false)), (38, 98, 827, .inl (.sipush 400, 3, 400, 400, false)), (39, 101, 828, .inl (.sipush 400, 3, 400, 400, false)), (41, 104, 830, .inl (.bipush 104, 2, 104, 104, false)), (42, 107, 831, .inl (.bipush 104, 2, 104, 104, false)), (43, 110, 832, .inl (.bipush 104, 2, 104, 104, false)), (44, 113, 833, .inl (.bipush 104, 2, 104, 104, false)), (45, 116, 834, .inl (.sipush 312, 3, 312, 312, false)), (46, 119, 835, .inl (.sipush 312, 3, 312, 312, false)), (47, 122, 836, .inl (.bipush 104, 2, 104, 104, false)), (48, 125, 837, .inl (.bipush 104, 2, 104, 104, false)), (53, 128, 842, .inl (.sipush 210, 3, 210, 210, false))]
theorem ao_M : ac_ok RX8 cX8_init TX8 56 1 4 opM 337 = true := by decide +kernel
theorem ak_M : kiM.all (fun e => ai_okb mtM RX8 cX8_init none e.1 e.2) = true := by decide +kernel
theorem ad0_M : decode cX8_init 0 = .ok (.aload_n 0, 1) := by decide +kernel
theorem ad1_M : decode cX8_init 1 = .ok (.invokespecial 1, 3) := by decide +kernel
theorem aw_M : Cond.methodLink RX8 1 Lib.objectInit ∈ lw_tbl := List.mem_of_getElem? (i := 788) (by decide +kernel)
def opD : List ac_Op := [(0, 9, 98, .inl (.bipush 12, 2, 12, 12, false)), (1, 15, 99, .inl (.bipush 12, 2, 12, 12, false)), (2, 18, 101, .inl (.bipush 12, 2, 12, 12, false)), (3, 21, 102, .inl (.bipush 12, 2, 12, 12, false)), (4, 24, 103, .inl (.bipush 12, 2, 12, 12, false)), (5, 27, 104, .inl (.bipush 108, 2, 108, 108, false)), (6, 30, 105, .inl (.bipush 36, 2, 36, 36, false)), (7, 33, 106, .inl (.bipush 36, 2, 36, 36, false)), (8, 36, 107, .inl (.bipush 36, 2, 36, 36, false)), (9, 39, 108, .inl (.bipush 12, 2, 12, 12, false)), (10, 42, 109, .inl (.bipush 12, 2, 12, 12, false))]
theorem ao_D : ac_ok RX0 cX0_init TX0 12 1 4 opD 92 = true := by decide +kernel
theorem ak_D : kiD.all (fun e => ai_okb mtC RX0 cX0_init none e.1 e.2) = true := by decide +kernel
theorem ad0_D : decode cX0_init 0 = .ok (.aload_n 0, 1) := by decide +kernel
theorem ad1_D : decode cX0_init 1 = .ok (.invokespecial 3, 3) := by decide +kernel
theorem aw_D : Cond.methodLink RX0 3 Lib.objectInit ∈ lw_tbl := List.mem_of_getElem? (i := 97) (by decide +kernel)
theorem ct_D (l : Launch) (D : va_G) (cA : Bool → ClassId) : ac_Met l D cA yX0_init cX0_init 1 0 [.null, .null, .null, .null, .null, .null, .null, .null, .null, .null, .null, .int 0] [] shD gD 11 300 1 0 :=
  ac_made l D cA (T := TX0) (N := 12) (ops := opD) (oix := 3) (pe := 92) (fuel := 300) (fuel2 := 1000) (mt := mtC) (ki := kiD) (mci := mciC) (ml := mlC) (cd := cdC) (d := 0) (by decide +kernel) rfl rfl rfl (Nat.le_of_ble_eq_true rfl) ad0_D ad1_D aw_D ao_D (fun _ _ _ => rfl) rfl ruD ak_D ckC mokC
def opT : List ac_Op := [(1, 9, 148, .inl (.sipush 512, 3, 512, 512, false)), (2, 15, 149, .inl (.sipush 512, 3, 512, 512, false)), (3, 18, 150, .inl (.sipush 512, 3, 512, 512, false)), (4, 21, 151, .inl (.sipush 512, 3, 512, 512, false)), (5, 24, 152, .inl (.sipush 1536, 3, 1536, 1536, false)), (6, 27, 153, .inl (.sipush 512, 3, 512, 512, false)), (7, 30, 154, .inl (.sipush 512, 3, 512, 512, true)), (8, 34, 155, .inl (.sipush 512, 3, 512, 512, true)), (0, 37, 147, .inr (.aload_n 1, 1, 1))]
theorem ao_T : ac_ok RX6 cX6_init TX6 13 2 4 opT 81 = true := by decide +kernel
theorem ak_T : kiT.all (fun e => ai_okb mtC RX6 cX6_init none e.1 e.2) = true := by decide +kernel
theorem ad0_T : decode cX6_init 0 = .ok (.aload_n 0, 1) := by decide +kernel
theorem ad1_T : decode cX6_init 1 = .ok (.invokespecial 3, 3) := by decide +kernel
theorem aw_T : Cond.methodLink RX6 3 Lib.objectInit ∈ lw_tbl := List.mem_of_getElem? (i := 142) (by decide +kernel)
theorem ct_T (l : Launch) (D : va_G) (cA : Bool → ClassId) (q0 : Nat) : ac_Met l D cA yX6_init cX6_init 3 6 [.null, .null, .null, .null, .null, .null, .null, .null, .null, .int 0, .int 0, .int 0, .int 0] [q0] shT gT 8 5120 2 0 :=
  ac_made l D cA (T := TX6) (N := 13) (ops := opT) (oix := 3) (pe := 81) (fuel := 300) (fuel2 := 1000) (mt := mtC) (ki := kiT) (mci := mciC) (ml := mlC) (cd := cdC) (d := 1) (by decide +kernel) rfl rfl rfl (Nat.le_of_ble_eq_true rfl) ad0_T ad1_T aw_T ao_T (fun _ _ _ => rfl) rfl ruT ak_T ckC mokC
def opF : List ac_Op := [(0, 9, 194, .inr (.aload_n 1, 1, 1)), (1, 15, 195, .inr (.aload_n 2, 1, 2))]
theorem ao_F : ac_ok RX1 cX1_init TX1 2 3 4 opF 14 = true := by decide +kernel
theorem ak_F : kiF.all (fun e => ai_okb mtC RX1 cX1_init none e.1 e.2) = true := by decide +kernel
theorem ad0_F : decode cX1_init 0 = .ok (.aload_n 0, 1) := by decide +kernel
theorem ad1_F : decode cX1_init 1 = .ok (.invokespecial 3, 3) := by decide +kernel
theorem aw_F : Cond.methodLink RX1 3 Lib.objectInit ∈ lw_tbl := List.mem_of_getElem? (i := 193) (by decide +kernel)
theorem ruF : ab_e shF mciC (ab_ec shF mciC mlC cdC 300 0) (ai_lu kiF) 1000 14 (ab_ent 3 [.inl 0, .inl 1, .inl 2]) [] [] = some (none, []) := by decide +kernel
theorem ct_F (l : Launch) (D : va_G) (cA : Bool → ClassId) (q0 q1 : Nat) : ac_Met l D cA yX1_init cX1_init 3 1 [.null, .null] [q0, q1] shF [] 0 0 1 0 :=
  ac_made l D cA (T := TX1) (N := 2) (ops := opF) (oix := 3) (pe := 14) (fuel := 300) (fuel2 := 1000) (mt := mtC) (ki := kiF) (mci := mciC) (ml := mlC) (cd := cdC) (d := 0) (by decide +kernel) rfl rfl rfl (Nat.le_of_ble_eq_true rfl) ad0_F ad1_F aw_F ao_F (fun _ _ _ => rfl) rfl ruF ak_F ckC mokC
def opO : List ac_Op := [(0, 9, 207, .inr (.aload_n 1, 1, 1)), (1, 15, 208, .inr (.aload_n 2, 1, 2)), (2, 19, 209, .inr (.aload_n 3, 1, 3))]
theorem ao_O : ac_ok RX2 cX2_init TX2 3 4 4 opO 19 = true := by decide +kernel
theorem ak_O : kiO.all (fun e => ai_okb mtC RX2 cX2_init none e.1 e.2) = true := by decide +kernel
theorem ad0_O : decode cX2_init 0 = .ok (.aload_n 0, 1) := by decide +kernel
theorem ad1_O : decode cX2_init 1 = .ok (.invokespecial 3, 3) := by decide +kernel
theorem aw_O : Cond.methodLink RX2 3 Lib.objectInit ∈ lw_tbl := List.mem_of_getElem? (i := 206) (by decide +kernel)
theorem ruO : ab_e shO mciC (ab_ec shO mciC mlC cdC 300 0) (ai_lu kiO) 1000 19 (ab_ent 4 [.inl 0, .inl 1, .inl 2, .inl 3]) [] [] = some (none, []) := by decide +kernel
theorem ct_O (l : Launch) (D : va_G) (cA : Bool → ClassId) (q0 q1 q2 : Nat) : ac_Met l D cA yX2_init cX2_init 4 2 [.null, .null, .null] [q0, q1, q2] shO [] 0 0 1 0 :=
  ac_made l D cA (T := TX2) (N := 3) (ops := opO) (oix := 3) (pe := 19) (fuel := 300) (fuel2 := 1000) (mt := mtC) (ki := kiO) (mci := mciC) (ml := mlC) (cd := cdC) (d := 0) (by decide +kernel) rfl rfl rfl (Nat.le_of_ble_eq_true rfl) ad0_O ad1_O aw_O ao_O (fun _ _ _ => rfl) rfl ruO ak_O ckC mokC
def opU : List ac_Op := [(0, 9, 223, .inr (.aload_n 1, 1, 1)), (1, 15, 224, .inr (.aload_n 2, 1, 2)), (2, 19, 225, .inr (.aload_n 3, 1, 3)), (3, 23, 226, .inr (.aload 4, 2, 4))]
theorem ao_U : ac_ok RX5 cX5_init TX5 4 5 4 opU 25 = true := by decide +kernel
theorem ak_U : kiU.all (fun e => ai_okb mtC RX5 cX5_init none e.1 e.2) = true := by decide +kernel
theorem ad0_U : decode cX5_init 0 = .ok (.aload_n 0, 1) := by decide +kernel
theorem ad1_U : decode cX5_init 1 = .ok (.invokespecial 3, 3) := by decide +kernel
theorem aw_U : Cond.methodLink RX5 3 Lib.objectInit ∈ lw_tbl := List.mem_of_getElem? (i := 222) (by decide +kernel)
theorem ruU : ab_e shU mciC (ab_ec shU mciC mlC cdC 300 0) (ai_lu kiU) 1000 25 (ab_ent 5 [.inl 0, .inl 1, .inl 2, .inl 3, .inl 4]) [] [] = some (none, []) := by decide +kernel
theorem ct_U (l : Launch) (D : va_G) (cA : Bool → ClassId) (q0 q1 q2 q3 : Nat) : ac_Met l D cA yX5_init cX5_init 5 5 [.null, .null, .null, .null] [q0, q1, q2, q3] shU [] 0 0 1 0 :=
  ac_made l D cA (T := TX5) (N := 4) (ops := opU) (oix := 3) (pe := 25) (fuel := 300) (fuel2 := 1000) (mt := mtC) (ki := kiU) (mci := mciC) (ml := mlC) (cd := cdC) (d := 0) (by decide +kernel) rfl rfl rfl (Nat.le_of_ble_eq_true rfl) ad0_U ad1_U aw_U ao_U (fun _ _ _ => rfl) rfl ruU ak_U ckC mokC
def opE : List ac_Op := [(3, 9, 245, .inl (.bipush 100, 2, 100, 100, false)), (0, 15, 242, .inr (.aload_n 1, 1, 1)), (1, 19, 243, .inr (.aload_n 2, 1, 2)), (2, 23, 244, .inr (.aload_n 3, 1, 3))]
theorem ao_E : ac_ok RX4 cX4_init TX4 7 4 4 opE 27 = true := by decide +kernel
theorem ak_E : kiE.all (fun e => ai_okb mtC RX4 cX4_init none e.1 e.2) = true := by decide +kernel
theorem ad0_E : decode cX4_init 0 = .ok (.aload_n 0, 1) := by decide +kernel
theorem ad1_E : decode cX4_init 1 = .ok (.invokespecial 3, 3) := by decide +kernel
theorem aw_E : Cond.methodLink RX4 3 Lib.objectInit ∈ lw_tbl := List.mem_of_getElem? (i := 241) (by decide +kernel)
theorem ruE : ab_e shE mciC (ab_ec shE mciC mlC cdC 300 0) (ai_lu kiE) 1000 27 (ab_ent 4 [.inl 0, .inl 2, .inl 3, .inl 4]) [] [] = some (none, []) := by decide +kernel
theorem ct_E (l : Launch) (D : va_G) (cA : Bool → ClassId) (q0 q1 q2 : Nat) : ac_Met l D cA yX4_init cX4_init 4 4 [.null, .null, .null, .null, .int 0, .int 0, .int 0] [q0, q1, q2] shE [] 1 100 1 0 :=
  ac_made l D cA (T := TX4) (N := 7) (ops := opE) (oix := 3) (pe := 27) (fuel := 300) (fuel2 := 1000) (mt := mtC) (ki := kiE) (mci := mciC) (ml := mlC) (cd := cdC) (d := 0) (by decide +kernel) rfl rfl rfl (Nat.le_of_ble_eq_true rfl) ad0_E ad1_E aw_E ao_E (fun _ _ _ => rfl) rfl ruE ak_E ckC mokC
def opP : List ac_Op := [(1, 9, 271, .inl (.sipush 200, 3, 200, 200, false)), (2, 15, 272, .inl (.sipush 200, 3, 200, 200, false)), (0, 18, 270, .inr (.aload_n 1, 1, 1))]
theorem ao_P : ac_ok RX3 cX3_init TX3 5 2 4 opP 27 = true := by decide +kernel
theorem ak_P : kiP.all (fun e => ai_okb mtC RX3 cX3_init none e.1 e.2) = true := by decide +kernel
theorem ad0_P : decode cX3_init 0 = .ok (.aload_n 0, 1) := by decide +kernel
theorem ad1_P : decode cX3_init 1 = .ok (.invokespecial 3, 3) := by decide +kernel
theorem aw_P : Cond.methodLink RX3 3 Lib.objectInit ∈ lw_tbl := List.mem_of_getElem? (i := 269) (by decide +kernel)
theorem ruP : ab_e shP mciC (ab_ec shP mciC mlC cdC 300 0) (ai_lu kiP) 1000 27 (ab_ent 2 [.inl 0, .inl 3]) [] [] = some (none, []) := by decide +kernel
theorem ct_P (l : Launch) (D : va_G) (cA : Bool → ClassId) (q0 : Nat) : ac_Met l D cA yX3_init cX3_init 2 3 [.null, .null, .null, .int 0, .int 0] [q0] shP [] 2 400 1 0 :=
  ac_made l D cA (T := TX3) (N := 5) (ops := opP) (oix := 3) (pe := 27) (fuel := 300) (fuel2 := 1000) (mt := mtC) (ki := kiP) (mci := mciC) (ml := mlC) (cd := cdC) (d := 0) (by decide +kernel) rfl rfl rfl (Nat.le_of_ble_eq_true rfl) ad0_P ad1_P aw_P ao_P (fun _ _ _ => rfl) rfl ruP ak_P ckC mokC
