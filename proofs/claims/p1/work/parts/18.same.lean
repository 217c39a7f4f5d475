/-! every call on a fresh object has one answer on both sides -/
def ab_cov : Nat → List (Nat × Nat) → Bool
  | n, [] => Nat.ble 4294967296 n
  | n, (lo, hi) :: P => Nat.ble lo n && ab_cov (hi + 1) P
theorem ab_cov_ok : ∀ (P : List (Nat × Nat)) (n : Nat), ab_cov n P = true → ∀ x : Int32, n ≤ ab_U x → ∃ p ∈ P, ab_in p x
  | [], n, h, x, hx => by
    have h1 := Nat.le_of_ble_eq_true h
    have h2 := (ab_Ub x).2
    omega
  | (lo, hi) :: P, n, h, x, hx => by
    simp only [ab_cov, Bool.and_eq_true, Nat.ble_eq] at h
    by_cases h1 : ab_U x ≤ hi
    · exact ⟨(lo, hi), List.mem_cons_self, by show lo ≤ ab_U x; omega, h1⟩
    · obtain ⟨p, h2, h3⟩ := ab_cov_ok P (hi + 1) h.2 x (by omega)
      exact ⟨p, List.mem_cons_of_mem _ h2, h3⟩
theorem ab_b1_ok {P : List (Nat × Nat)} {f : List ab_V → Bool} (h : ab_b1 P f = true) (c1 : ab_cov 0 P = true) (x : Int32) : ∃ as, f as = true ∧ ab_s as [.int x] := by
  obtain ⟨p, p1, p2⟩ := ab_cov_ok P 0 c1 x (Nat.zero_le _)
  exact ⟨_, List.all_eq_true.mp h p p1, p2, trivial⟩
theorem ab_bj_ok {P : List (Nat × Nat)} {f : List ab_V → Bool} (h : ab_bj P f = true) (c1 : ab_cov 0 P = true) (x : Int32) (w : Int64) : ∃ as, f as = true ∧ ab_s as [.int x, .long w] := by
  obtain ⟨p, p1, p2⟩ := ab_cov_ok P 0 c1 x (Nat.zero_le _)
  exact ⟨_, List.all_eq_true.mp h p p1, p2, trivial, trivial⟩
theorem ab_b2_ok {P Q : List (Nat × Nat)} {f : List ab_V → Bool} (h : ab_b2 P Q f = true) (c1 : ab_cov 0 P = true) (c2 : ab_cov 0 Q = true) (x y : Int32) : ∃ as, f as = true ∧ ab_s as [.int x, .int y] := by
  obtain ⟨p, p1, p2⟩ := ab_cov_ok P 0 c1 x (Nat.zero_le _)
  obtain ⟨q, q1, q2⟩ := ab_cov_ok Q 0 c2 y (Nat.zero_le _)
  exact ⟨_, List.all_eq_true.mp (List.all_eq_true.mp h p p1) q q1, p2, q2, trivial⟩
theorem ab_b3_ok {P Q R : List (Nat × Nat)} {f : List ab_V → Bool} (h : ab_b3 P Q R f = true) (c1 : ab_cov 0 P = true) (c2 : ab_cov 0 Q = true) (c3 : ab_cov 0 R = true) (x y z : Int32) : ∃ as, f as = true ∧ ab_s as [.int x, .int y, .int z] := by
  obtain ⟨p, p1, p2⟩ := ab_cov_ok P 0 c1 x (Nat.zero_le _)
  obtain ⟨q, q1, q2⟩ := ab_cov_ok Q 0 c2 y (Nat.zero_le _)
  obtain ⟨r, r1, r2⟩ := ab_cov_ok R 0 c3 z (Nat.zero_le _)
  exact ⟨_, List.all_eq_true.mp (List.all_eq_true.mp (List.all_eq_true.mp h p p1) q q1) r r1, p2, q2, r2, trivial⟩
theorem ab_r_int {p : Nat × Nat} {v : Option Value} (h : ab_r (some p) v) : ∃ x : Int32, v = some (.int x) ∧ ab_in p x := by
  cases v with
  | none => exact h.elim
  | some v => cases v <;> first | exact h.elim | exact ⟨_, rfl, h⟩
def sa_P (iC iM : Nat) (vs : List Value) (hC hM : ai_H) : Prop := ∃ (r : Int32) (a b : ai_H), CC 7 iC (.ref 29 :: vs) hC (some (.int r)) a ∧ CM 7 iM (.ref 0 :: vs) hM (some (.int r)) b
theorem ab_same {iC iM : Nat} {as : List ab_V} {vs : List Value} {hC hM : ai_H} (hb : ab_both iC iM as = true ∧ ab_s as vs) (h1 : ab_h gC hC) (h2 : ab_h gM hM) : sa_P iC iM vs hC hM := by
  obtain ⟨hb, hs⟩ := hb
  unfold ab_both at hb
  split at hb
  · rename_i p G1 q G2 e1 e2
    obtain ⟨v1, a, c1, c2, -⟩ := ab_call 7 iC _ _ _ _ e1 (.ref 29 :: vs) hC ⟨rfl, hs⟩ h1
    obtain ⟨v2, b, d1, d2, -⟩ := ab_call 7 iM _ _ _ _ e2 (.ref 0 :: vs) hM ⟨rfl, hs⟩ h2
    obtain ⟨x, rfl, hx⟩ := ab_r_int c2
    obtain ⟨y, rfl, hy⟩ := ab_r_int d2
    simp only [Bool.and_eq_true] at hb
    have e : x = y := by rw [← ab_one hx hb.1.1, ← ab_one hy hb.1.2, Nat.eq_of_beq_eq_true hb.2]
    subst e
    exact ⟨x, a, b, c1, d1⟩
  · cases hb
theorem cv_0 : ab_cov 0 bx_0 = true := by decide +kernel
theorem cv_1 : ab_cov 0 bx_1 = true := by decide +kernel
theorem cv_2 : ab_cov 0 bx_2 = true := by decide +kernel
theorem cv_3 : ab_cov 0 bx_3 = true := by decide +kernel
theorem cv_4 : ab_cov 0 bx_4 = true := by decide +kernel
theorem cv_5 : ab_cov 0 bx_5 = true := by decide +kernel
theorem cv_6 : ab_cov 0 bx_6 = true := by decide +kernel
theorem cv_7 : ab_cov 0 bx_7 = true := by decide +kernel
theorem cv_8 : ab_cov 0 bx_8 = true := by decide +kernel
theorem cv_9 : ab_cov 0 bx_9 = true := by decide +kernel
theorem cv_10 : ab_cov 0 bx_10 = true := by decide +kernel
theorem sa_0 {hC hM : ai_H} (h1 : ab_h gC hC) (h2 : ab_h gM hM) (x y z : Int32) : sa_P 78 32 [.int x, .int y, .int z] hC hM := by
  obtain ⟨as, e⟩ := ab_b3_ok bo_0 cv_0 cv_1 cv_2 x y z
  exact ab_same e h1 h2
theorem sa_1 {hC hM : ai_H} (h1 : ab_h gC hC) (h2 : ab_h gM hM) (x y : Int32) : sa_P 79 33 [.int x, .int y] hC hM := by
  obtain ⟨as, e⟩ := ab_b2_ok bo_1 cv_3 cv_4 x y
  exact ab_same e h1 h2
theorem sa_2 {hC hM : ai_H} (h1 : ab_h gC hC) (h2 : ab_h gM hM) (x y z : Int32) : sa_P 80 35 [.int x, .int y, .int z] hC hM := by
  obtain ⟨as, e⟩ := ab_b3_ok bo_2 cv_3 cv_4 cv_5 x y z
  exact ab_same e h1 h2
theorem sa_3 {hC hM : ai_H} (h1 : ab_h gC hC) (h2 : ab_h gM hM) (x y : Int32) : sa_P 81 37 [.int x, .int y] hC hM := by
  obtain ⟨as, e⟩ := ab_b2_ok bo_3 cv_3 cv_5 x y
  exact ab_same e h1 h2
theorem sa_4 {hC hM : ai_H} (h1 : ab_h gC hC) (h2 : ab_h gM hM) (x y : Int32) : sa_P 82 38 [.int x, .int y] hC hM := by
  obtain ⟨as, e⟩ := ab_b2_ok bo_4 cv_1 cv_6 x y
  exact ab_same e h1 h2
theorem sa_5 {hC hM : ai_H} (h1 : ab_h gC hC) (h2 : ab_h gM hM) (x y : Int32) : sa_P 83 40 [.int x, .int y] hC hM := by
  obtain ⟨as, e⟩ := ab_b2_ok bo_5 cv_3 cv_7 x y
  exact ab_same e h1 h2
theorem sa_6 {hC hM : ai_H} (h1 : ab_h gC hC) (h2 : ab_h gM hM) (x : Int32) : sa_P 84 41 [.int x] hC hM := by
  obtain ⟨as, e⟩ := ab_b1_ok bo_6 cv_6 x
  exact ab_same e h1 h2
theorem sa_7 {hC hM : ai_H} (h1 : ab_h gC hC) (h2 : ab_h gM hM) (x y : Int32) : sa_P 85 42 [.int x, .int y] hC hM := by
  obtain ⟨as, e⟩ := ab_b2_ok bo_7 cv_6 cv_8 x y
  exact ab_same e h1 h2
theorem sa_8 {hC hM : ai_H} (h1 : ab_h gC hC) (h2 : ab_h gM hM) (x y : Int32) : sa_P 86 43 [.int x, .int y] hC hM := by
  obtain ⟨as, e⟩ := ab_b2_ok bo_8 cv_6 cv_6 x y
  exact ab_same e h1 h2
theorem sa_9 {hC hM : ai_H} (h1 : ab_h gC hC) (h2 : ab_h gM hM) (x : Int32) : sa_P 87 44 [.int x] hC hM := by
  obtain ⟨as, e⟩ := ab_b1_ok bo_9 cv_6 x
  exact ab_same e h1 h2
theorem sa_10 {hC hM : ai_H} (h1 : ab_h gC hC) (h2 : ab_h gM hM) (x : Int32) : sa_P 88 45 [.int x] hC hM := by
  obtain ⟨as, e⟩ := ab_b1_ok bo_10 cv_6 x
  exact ab_same e h1 h2
theorem sa_11 {hC hM : ai_H} (h1 : ab_h gC hC) (h2 : ab_h gM hM) (x y : Int32) : sa_P 89 46 [.int x, .int y] hC hM := by
  obtain ⟨as, e⟩ := ab_b2_ok bo_11 cv_6 cv_3 x y
  exact ab_same e h1 h2
theorem sa_12 {hC hM : ai_H} (h1 : ab_h gC hC) (h2 : ab_h gM hM) (x y : Int32) : sa_P 90 47 [.int x, .int y] hC hM := by
  obtain ⟨as, e⟩ := ab_b2_ok bo_12 cv_6 cv_6 x y
  exact ab_same e h1 h2
theorem sa_13 {hC hM : ai_H} (h1 : ab_h gC hC) (h2 : ab_h gM hM) (x : Int32) (w : Int64) : sa_P 91 48 [.int x, .long w] hC hM := by
  obtain ⟨as, e⟩ := ab_bj_ok bo_13 cv_9 x w
  exact ab_same e h1 h2
theorem sa_14 {hC hM : ai_H} (h1 : ab_h gC hC) (h2 : ab_h gM hM) : sa_P 92 59 [] hC hM := ab_same ⟨bo_14, trivial⟩ h1 h2
theorem sa_15 {hC hM : ai_H} (h1 : ab_h gC hC) (h2 : ab_h gM hM) (x : Int32) : sa_P 93 62 [.int x] hC hM := by
  obtain ⟨as, e⟩ := ab_b1_ok bo_15 cv_6 x
  exact ab_same e h1 h2
theorem sa_16 {hC hM : ai_H} (h1 : ab_h gC hC) (h2 : ab_h gM hM) (x : Int32) : sa_P 94 63 [.int x] hC hM := by
  obtain ⟨as, e⟩ := ab_b1_ok bo_16 cv_4 x
  exact ab_same e h1 h2
theorem sa_17 {hC hM : ai_H} (h1 : ab_h gC hC) (h2 : ab_h gM hM) (x : Int32) : sa_P 95 64 [.int x] hC hM := by
  obtain ⟨as, e⟩ := ab_b1_ok bo_17 cv_10 x
  exact ab_same e h1 h2
