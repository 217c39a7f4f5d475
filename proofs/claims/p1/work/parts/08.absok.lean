/-! the runs over intervals are true of the small machine -/
theorem ab_Ub (x : Int32) : (ab_U x : Int) = x.toInt + 2147483648 ∧ ab_U x ≤ 4294967295 := by
  have h1 := Int32.toInt_lt x
  have h2 := Int32.le_toInt x
  unfold ab_U
  omega
theorem ab_lt_iff (x y : Int32) : x < y ↔ ab_U x < ab_U y := by
  rw [Int32.lt_iff_toInt_lt]
  have h1 := (ab_Ub x).1
  have h2 := (ab_Ub y).1
  omega
theorem ab_le_iff (x y : Int32) : x ≤ y ↔ ab_U x ≤ ab_U y := by
  rw [Int32.le_iff_toInt_le]
  have h1 := (ab_Ub x).1
  have h2 := (ab_Ub y).1
  omega
theorem ab_eq_iff (x y : Int32) : x = y ↔ ab_U x = ab_U y := by
  rw [← Int32.toInt_inj]
  have h1 := (ab_Ub x).1
  have h2 := (ab_Ub y).1
  omega
theorem ab_U0 : ab_U 0 = 2147483648 := by decide +kernel
theorem ab_U1 : ab_U 1 = 2147483649 := by decide +kernel
theorem ab_IU (x : Int32) : ab_I (ab_U x) = x := by
  unfold ab_I
  rw [(ab_Ub x).1, show x.toInt + 2147483648 - 2147483648 = x.toInt by omega, Int32.ofInt_toInt]
theorem ab_in_c (x : Int32) : ab_in (ab_c x) x := ⟨Nat.le_refl _, Nat.le_refl _⟩
theorem ab_in_top (x : Int32) : ab_in ab_top x := ⟨Nat.zero_le _, (ab_Ub x).2⟩
theorem ab_in_add {p q : Nat × Nat} {x y : Int32} (hx : ab_in p x) (hy : ab_in q y) : ab_in (ab_add p q) (x + y) := by
  unfold ab_add
  cases hb : (Nat.ble 2147483648 (p.1 + q.1) && Nat.ble (p.2 + q.2) 6442450943) with
  | false => exact ab_in_top _
  | true =>
    simp only [Bool.and_eq_true, Nat.ble_eq] at hb
    have h1 := (ab_Ub x).1
    have h2 := (ab_Ub y).1
    have h3 := (ab_Ub (x + y)).1
    rw [Int32.toInt_add, Int.bmod_eq_of_le (by have := hx.1; have := hx.2; have := hy.1; have := hy.2; omega) (by have := hx.1; have := hx.2; have := hy.1; have := hy.2; omega)] at h3
    have := hx.1; have := hx.2; have := hy.1; have := hy.2
    constructor
    · show p.1 + q.1 - 2147483648 ≤ _
      omega
    · show _ ≤ p.2 + q.2 - 2147483648
      omega
theorem ab_in_sub {p q : Nat × Nat} {x y : Int32} (hx : ab_in p x) (hy : ab_in q y) : ab_in (ab_sub p q) (x - y) := by
  unfold ab_sub
  cases hb : (Nat.ble q.2 (p.1 + 2147483648) && Nat.ble (p.2 + 2147483648) (q.1 + 4294967295)) with
  | false => exact ab_in_top _
  | true =>
    simp only [Bool.and_eq_true, Nat.ble_eq] at hb
    have h1 := (ab_Ub x).1
    have h2 := (ab_Ub y).1
    have h3 := (ab_Ub (x - y)).1
    rw [Int32.toInt_sub, Int.bmod_eq_of_le (by have := hx.1; have := hx.2; have := hy.1; have := hy.2; omega) (by have := hx.1; have := hx.2; have := hy.1; have := hy.2; omega)] at h3
    have := hx.1; have := hx.2; have := hy.1; have := hy.2
    constructor
    · show p.1 + 2147483648 - q.2 ≤ _
      omega
    · show _ ≤ p.2 + 2147483648 - q.1
      omega
theorem ab_one {p : Nat × Nat} {x : Int32} (hx : ab_in p x) (h : Nat.beq p.1 p.2 = true) : ab_I p.1 = x := by
  have h1 := Nat.eq_of_beq_eq_true h
  have h2 : p.1 = ab_U x := by have := hx.1; have := hx.2; omega
  rw [h2, ab_IU]
theorem ab_in_op {f : Int32 → Int32 → Int32} {p q : Nat × Nat} {x y : Int32} (hx : ab_in p x) (hy : ab_in q y) : ab_in (ab_op f p q) (f x y) := by
  unfold ab_op
  cases hb : (Nat.beq p.1 p.2 && Nat.beq q.1 q.2) with
  | false => exact ab_in_top _
  | true =>
    rw [Bool.and_eq_true] at hb
    show ab_in (ab_c (f (ab_I p.1) (ab_I q.1))) _
    rw [ab_one hx hb.1, ab_one hy hb.2]
    exact ab_in_c _
theorem ab_in_min {p q : Nat × Nat} {x y : Int32} (hx : ab_in p x) (hy : ab_in q y) : ab_in (ab_min p q) (if y < x then y else x) := by
  have := hx.1; have := hx.2; have := hy.1; have := hy.2
  unfold ab_min ab_in
  by_cases h : y < x
  · rw [if_pos h]
    rw [ab_lt_iff] at h
    constructor
    · cases hb : Nat.ble p.1 q.1 with
      | true => have := Nat.le_of_ble_eq_true hb; simp only [cond_true]; omega
      | false => simp only [cond_false]; omega
    · cases hb : Nat.ble p.2 q.2 with
      | true => simp only [cond_true]; omega
      | false => simp only [cond_false]; omega
  · rw [if_neg h]
    rw [ab_lt_iff] at h
    constructor
    · cases hb : Nat.ble p.1 q.1 with
      | true => simp only [cond_true]; omega
      | false => have := Nat.not_le_of_not_ble_eq_true (Bool.eq_false_iff.mp hb); simp only [cond_false]; omega
    · cases hb : Nat.ble p.2 q.2 with
      | true => simp only [cond_true]; omega
      | false => have := Nat.not_le_of_not_ble_eq_true (Bool.eq_false_iff.mp hb); simp only [cond_false]; omega
theorem ab_in_max {p q : Nat × Nat} {x y : Int32} (hx : ab_in p x) (hy : ab_in q y) : ab_in (ab_max p q) (if x < y then y else x) := by
  have := hx.1; have := hx.2; have := hy.1; have := hy.2
  unfold ab_max ab_in
  by_cases h : x < y
  · rw [if_pos h]
    rw [ab_lt_iff] at h
    constructor
    · cases hb : Nat.ble p.1 q.1 with
      | true => simp only [cond_true]; omega
      | false => have := Nat.not_le_of_not_ble_eq_true (Bool.eq_false_iff.mp hb); simp only [cond_false]; omega
    · cases hb : Nat.ble p.2 q.2 with
      | true => simp only [cond_true]; omega
      | false => have := Nat.not_le_of_not_ble_eq_true (Bool.eq_false_iff.mp hb); simp only [cond_false]; omega
  · rw [if_neg h]
    rw [ab_lt_iff] at h
    constructor
    · cases hb : Nat.ble p.1 q.1 with
      | true => simp only [cond_true]; omega
      | false => simp only [cond_false]; omega
    · cases hb : Nat.ble p.2 q.2 with
      | true => have := Nat.le_of_ble_eq_true hb; simp only [cond_true]; omega
      | false => simp only [cond_false]; omega
theorem ab_eq_ok {p q : Nat × Nat} {x y : Int32} {b : Bool} (hx : ab_in p x) (hy : ab_in q y) (h : ab_eq p q = some b) : b = true ↔ x = y := by
  have := hx.1; have := hx.2; have := hy.1; have := hy.2
  rw [ab_eq_iff]
  unfold ab_eq at h
  cases h1 : (Nat.beq p.1 p.2 && Nat.beq q.1 q.2 && Nat.beq p.1 q.1) with
  | true =>
    rw [h1] at h
    simp only [cond_true, Option.some.injEq] at h
    simp only [Bool.and_eq_true] at h1
    have e1 := Nat.eq_of_beq_eq_true h1.1.1
    have e2 := Nat.eq_of_beq_eq_true h1.1.2
    have e3 := Nat.eq_of_beq_eq_true h1.2
    exact ⟨fun _ => by omega, fun _ => h.symm⟩
  | false =>
    rw [h1] at h
    simp only [cond_false] at h
    cases h2 : (Nat.ble (p.2 + 1) q.1 || Nat.ble (q.2 + 1) p.1) with
    | false => rw [h2] at h; simp at h
    | true =>
      rw [h2] at h
      simp only [cond_true, Option.some.injEq] at h
      simp only [Bool.or_eq_true, Nat.ble_eq] at h2
      subst h
      exact ⟨fun z => (by cases z), fun z => (by omega)⟩
theorem ab_lt_ok {p q : Nat × Nat} {x y : Int32} {b : Bool} (hx : ab_in p x) (hy : ab_in q y) (h : ab_lt p q = some b) : b = true ↔ x < y := by
  have := hx.1; have := hx.2; have := hy.1; have := hy.2
  rw [ab_lt_iff]
  unfold ab_lt at h
  cases h1 : Nat.ble (p.2 + 1) q.1 with
  | true =>
    rw [h1] at h
    simp only [cond_true, Option.some.injEq] at h
    rw [Nat.ble_eq] at h1
    exact ⟨fun _ => by omega, fun _ => h.symm⟩
  | false =>
    rw [h1] at h
    simp only [cond_false] at h
    cases h2 : Nat.ble q.2 p.1 with
    | false => rw [h2] at h; simp at h
    | true =>
      rw [h2] at h
      simp only [cond_true, Option.some.injEq] at h
      rw [Nat.ble_eq] at h2
      subst h
      exact ⟨fun z => (by cases z), fun z => (by omega)⟩
theorem ab_not_lt (x y : Int32) : y ≤ x ↔ ¬ x < y := by rw [ab_le_iff, ab_lt_iff]; omega
theorem ab_cmp_ok {c : Jvm.ClassFile.Cond} {p q : Nat × Nat} {x y : Int32} {b : Bool} (hx : ab_in p x) (hy : ab_in q y) (h : ab_cmp c p q = some b) : b = true ↔ ai_cmp c x y := by
  have hn : ∀ {o : Option Bool} {P : Prop}, (∀ b, o = some b → (b = true ↔ P)) → o.map not = some b → (b = true ↔ ¬ P) := by
    intro o P h1 h2
    cases o with
    | none => cases h2
    | some b2 =>
      have h3 := h1 b2 rfl
      simp only [Option.map_some, Option.some.injEq] at h2
      subst h2
      rw [← h3]
      cases b2 <;> simp
  cases c with
  | eq => exact ab_eq_ok hx hy h
  | ne => exact hn (fun b hb => ab_eq_ok hx hy hb) h
  | lt => exact ab_lt_ok hx hy h
  | ge => show _ ↔ y ≤ x; rw [ab_not_lt]; exact hn (fun b hb => ab_lt_ok hx hy hb) h
  | gt => exact ab_lt_ok hy hx h
  | le => show _ ↔ x ≤ y; rw [ab_not_lt]; exact hn (fun b hb => ab_lt_ok hy hx hb) h
theorem ab_01_ok {p : Nat × Nat} {x : Int32} (hx : ab_in p x) (h : ab_01 p = true) : x = 0 ∨ x = 1 := by
  simp only [ab_01, Bool.and_eq_true, Nat.ble_eq] at h
  have := hx.1; have := hx.2
  rw [ab_eq_iff, ab_eq_iff, ab_U0, ab_U1]
  omega
theorem ab_ix_ok {p : Nat × Nat} {x : Int32} {N j : Nat} (hx : ab_in p x) (h : ab_ix p N = some j) : vp_in x N ∧ x.toNatClampNeg = j ∧ j < N ∧ ¬ x < 0 := by
  unfold ab_ix at h
  cases h1 : (Nat.beq p.1 p.2 && Nat.ble 2147483648 p.1 && Nat.ble (p.1 + 1) (2147483648 + N)) with
  | false => rw [h1] at h; simp at h
  | true =>
    rw [h1] at h
    simp only [cond_true, Option.some.injEq] at h
    simp only [Bool.and_eq_true, Nat.ble_eq] at h1
    have e1 := Nat.eq_of_beq_eq_true h1.1.1
    have := hx.1; have := hx.2
    have h2 := (ab_Ub x).1
    have h3 : x.toNatClampNeg = j := by
      show x.toInt.toNat = j
      omega
    have h4 : ¬ x < 0 := by rw [ab_lt_iff, ab_U0]; omega
    refine ⟨?_, h3, by omega, h4⟩
    unfold vp_in
    rw [h3]
    rintro (z | z)
    · exact h4 z
    · omega
theorem ab_s_int {p : Nat × Nat} {A : List ab_V} {S : List Value} (h : ab_s (.inr (some p) :: A) S) : ∃ x S1, S = .int x :: S1 ∧ ab_in p x ∧ ab_s A S1 := by
  cases S with
  | nil => exact h.elim
  | cons v S =>
    obtain ⟨h1, h2⟩ := h
    cases v <;> first | exact h1.elim | exact ⟨_, _, rfl, h1, h2⟩
theorem ab_s_ref {k : Nat} {A : List ab_V} {S : List Value} (h : ab_s (.inl k :: A) S) : ∃ S1, S = .ref k :: S1 ∧ ab_s A S1 := by
  cases S with
  | nil => exact h.elim
  | cons v S =>
    obtain ⟨h1, h2⟩ := h
    cases v <;> first | exact h1.elim | (cases h1; exact ⟨_, rfl, h2⟩)
theorem ab_s_long {A : List ab_V} {S : List Value} (h : ab_s (.inr none :: A) S) : ∃ x S1, S = .long x :: S1 ∧ ab_s A S1 := by
  cases S with
  | nil => exact h.elim
  | cons v S =>
    obtain ⟨h1, h2⟩ := h
    cases v <;> first | exact h1.elim | exact ⟨_, _, rfl, h2⟩
theorem ab_s_nil {S : List Value} (h : ab_s [] S) : S = [] := by
  cases S with
  | nil => rfl
  | cons v S => exact h.elim
theorem ab_v_cat {a : ab_V} {v : Value} (h : ab_v a v) : v.category = ab_cat a := by
  rcases a with k | ⟨⟩ | p <;> cases v <;> first | exact h.elim | rfl
theorem ab_s_sum : ∀ {A : List ab_V} {S : List Value}, ab_s A S → (S.map fun v => v.category).sum = ab_sum A
  | [], [], _ => rfl
  | a :: A, v :: S, h => by
    simp only [List.map_cons, List.sum_cons, ab_sum]
    rw [ab_v_cat h.1, ab_s_sum h.2]
  | [], _ :: _, h => h.elim
  | _ :: _, [], h => h.elim
theorem ab_s_take : ∀ (b : Nat) {A : List ab_V} {S : List Value}, ab_s A S → ab_s (A.take b) (S.take b) ∧ ab_s (A.drop b) (S.drop b)
  | 0, A, S, h => ⟨trivial, h⟩
  | b + 1, [], [], _ => ⟨trivial, trivial⟩
  | b + 1, a :: A, v :: S, h => ⟨⟨h.1, (ab_s_take b h.2).1⟩, (ab_s_take b h.2).2⟩
  | b + 1, [], _ :: _, h => h.elim
  | b + 1, _ :: _, [], h => h.elim
theorem ab_s_app : ∀ {A B : List ab_V} {S T : List Value}, ab_s A S → ab_s B T → ab_s (A ++ B) (S ++ T)
  | [], _, [], _, _, h => h
  | a :: A, _, v :: S, _, h, h2 => ⟨h.1, ab_s_app h.2 h2⟩
  | [], _, _ :: _, _, h, _ => h.elim
  | _ :: _, _, [], _, h, _ => h.elim
theorem ab_s_rev : ∀ {A : List ab_V} {S : List Value}, ab_s A S → ab_s A.reverse S.reverse
  | [], [], _ => trivial
  | a :: A, v :: S, h => by
    rw [List.reverse_cons, List.reverse_cons]
    exact ab_s_app (ab_s_rev h.2) ⟨h.1, trivial⟩
  | [], _ :: _, h => h.elim
  | _ :: _, [], h => h.elim
theorem ab_s_len : ∀ {A : List ab_V} {S : List Value}, ab_s A S → S.length = A.length
  | [], [], _ => rfl
  | a :: A, v :: S, h => by rw [List.length_cons, List.length_cons, ab_s_len h.2]
  | [], _ :: _, h => h.elim
  | _ :: _, [], h => h.elim
theorem ab_l_at : ∀ {A : ab_L} {L : ai_Lc} {k : Nat} {a : ab_V}, ab_l A L → A[k]? = some (some a) → ∃ v, L[k]? = some (some v) ∧ ab_v a v
  | [], _, k, a, _, h2 => by simp at h2
  | none :: A, none :: L, 0, a, h, h2 => by simp at h2
  | none :: A, none :: L, k + 1, a, h, h2 => by
    simp only [List.getElem?_cons_succ] at h2 ⊢
    exact ab_l_at (A := A) (L := L) h h2
  | some a0 :: A, some v :: L, 0, a, h, h2 => by
    simp only [List.getElem?_cons_zero, Option.some.injEq] at h2
    subst h2
    exact ⟨v, rfl, h.1⟩
  | some a0 :: A, some v :: L, k + 1, a, h, h2 => by
    simp only [List.getElem?_cons_succ] at h2 ⊢
    exact ab_l_at (A := A) (L := L) h.2 h2
  | none :: _, some _ :: _, _, _, h, _ => h.elim
  | some _ :: _, none :: _, _, _, h, _ => h.elim
  | none :: _, [], _, _, h, _ => h.elim
  | some _ :: _, [], _, _, h, _ => h.elim
theorem ab_l_set : ∀ {A : ab_L} {L : ai_Lc} {k : Nat} {a : ab_V} {v : Value} {A2 : ab_L}, ab_l A L → ab_sa A k a = some A2 → ab_v a v → ∃ L2, ai_set L k v = some L2 ∧ ab_l A2 L2
  | [], _, _, _, _, _, _, h2, _ => by simp [ab_sa] at h2
  | none :: A, none :: L, 0, a, v, A2, h, h2, hv => by
    simp only [ab_sa, Option.some.injEq] at h2
    subst h2
    exact ⟨some v :: L, rfl, hv, h⟩
  | some a0 :: A, some v0 :: L, 0, a, v, A2, h, h2, hv => by
    have h3 : some (some a :: A) = some A2 := by rw [← h2]; rcases a0 with k | ⟨⟩ | p <;> rfl
    cases h3
    exact ⟨some v :: L, by cases v0 <;> rfl, hv, h.2⟩
  | none :: A, none :: L, k + 1, a, v, A2, h, h2, hv => by
    simp only [ab_sa] at h2
    cases h3 : ab_sa A k a with
    | none => rw [h3] at h2; cases h2
    | some A3 =>
      rw [h3] at h2
      cases h2
      obtain ⟨L2, h4, h5⟩ := ab_l_set (A := A) (L := L) h h3 hv
      exact ⟨none :: L2, by simp only [ai_set, h4, Option.map_some], h5⟩
  | some a0 :: A, some v0 :: L, k + 1, a, v, A2, h, h2, hv => by
    have hs : ∃ A3, ab_sa A k a = some A3 ∧ A2 = some a0 :: A3 ∧ (k = 0 → a0 ≠ .inr none) := by
      rcases k with _ | k
      · rcases a0 with q | ⟨⟩ | p
        · simp only [ab_sa] at h2
          cases h3 : ab_sa A 0 a with
          | none => rw [h3] at h2; cases h2
          | some A3 => rw [h3] at h2; cases h2; exact ⟨A3, rfl, rfl, fun _ z => by cases z⟩
        · simp [ab_sa] at h2
        · simp only [ab_sa] at h2
          cases h3 : ab_sa A 0 a with
          | none => rw [h3] at h2; cases h2
          | some A3 => rw [h3] at h2; cases h2; exact ⟨A3, rfl, rfl, fun _ z => by cases z⟩
      · have h2' : (match ab_sa A (k + 1) a with | some L2 => some (some a0 :: L2) | none => none) = some A2 := by rw [← h2]; rcases a0 with q | ⟨⟩ | p <;> rfl
        cases h3 : ab_sa A (k + 1) a with
        | none => rw [h3] at h2'; cases h2'
        | some A3 => rw [h3] at h2'; cases h2'; exact ⟨A3, rfl, rfl, fun z => by cases z⟩
    obtain ⟨A3, h3, rfl, h4⟩ := hs
    obtain ⟨L2, h5, h6⟩ := ab_l_set (A := A) (L := L) h.2 h3 hv
    refine ⟨some v0 :: L2, ?_, h.1, h6⟩
    have hc : ab_v a0 v0 := h.1
    rcases k with _ | k
    · have h7 := h4 rfl
      rcases a0 with q | ⟨⟩ | p
      · cases v0 <;> first | exact hc.elim | simp only [ai_set, h5, Option.map_some]
      · exact absurd rfl h7
      · cases v0 <;> first | exact hc.elim | simp only [ai_set, h5, Option.map_some]
    · cases v0 <;> simp only [ai_set, h5, Option.map_some]
  | none :: _, some _ :: _, _, _, _, _, h, _, _ => h.elim
  | some _ :: _, none :: _, _, _, _, _, h, _, _ => h.elim
  | none :: _, [], _, _, _, _, h, _, _ => h.elim
  | some _ :: _, [], _, _, _, _, h, _, _ => h.elim
theorem ab_l_fl : ∀ {A : List ab_V} {S : List Value}, ab_s A S → ab_l (ab_fl A) (ai_fl S)
  | [], [], _ => trivial
  | a :: A, v :: S, h => by
    have ih := ab_l_fl h.2
    have hc : ab_v a v := h.1
    have e : ai_fl (v :: S) = (if v.category = 2 then [some v, none] else [some v]) ++ ai_fl S := rfl
    rw [e, ab_v_cat hc]
    rcases a with q | ⟨⟩ | p
    · exact ⟨hc, ih⟩
    · exact ⟨hc, ih⟩
    · exact ⟨hc, ih⟩
  | [], _ :: _, h => h.elim
  | _ :: _, [], h => h.elim
theorem ab_l_len : ∀ {A : ab_L} {L : ai_Lc}, ab_l A L → L.length = A.length
  | [], [], _ => rfl
  | none :: A, none :: L, h => by rw [List.length_cons, List.length_cons, ab_l_len (A := A) (L := L) h]
  | some _ :: A, some _ :: L, h => by rw [List.length_cons, List.length_cons, ab_l_len (A := A) (L := L) h.2]
  | [], _ :: _, h => h.elim
  | none :: _, [], h => h.elim
  | some _ :: _, [], h => h.elim
  | none :: _, some _ :: _, h => h.elim
  | some _ :: _, none :: _, h => h.elim
theorem ab_l_rep : ∀ n, ab_l (ab_rep n) (List.replicate n none)
  | 0 => trivial
  | n + 1 => ab_l_rep n
theorem ab_l_app : ∀ {A B : ab_L} {L M : ai_Lc}, ab_l A L → ab_l B M → ab_l (A ++ B) (L ++ M)
  | [], _, [], _, _, h => h
  | none :: A, _, none :: L, _, h, h2 => ab_l_app (A := A) (L := L) h h2
  | some _ :: A, _, some _ :: L, _, h, h2 => ⟨h.1, ab_l_app (A := A) (L := L) h.2 h2⟩
  | [], _, _ :: _, _, h, _ => h.elim
  | none :: _, _, [], _, h, _ => h.elim
  | some _ :: _, _, [], _, h, _ => h.elim
  | none :: _, _, some _ :: _, _, h, _ => h.elim
  | some _ :: _, _, none :: _, _, h, _ => h.elim
theorem ab_l_ent {n : Nat} {A : List ab_V} {S : List Value} (h : ab_s A S) : ab_l (ab_ent n A) (ai_ent n S) := by
  have h1 := ab_l_fl h
  unfold ab_ent ai_ent
  rw [ab_l_len h1]
  exact ab_l_app h1 (ab_l_rep _)
theorem ab_h_up {G : ab_G} {h : ai_H} {k i : Nat} {p : Nat × Nat} {x : Int32} (hh : ab_h G h) (hx : ab_in p x) : ab_h ((k, i, p) :: G) (ai_up h k i x) := by
  intro k' j
  have e : ab_g ((k, i, p) :: G) k' j = bif Nat.beq k k' && Nat.beq i j then p else ab_g G k' j := rfl
  rw [e]
  cases hb : (Nat.beq k k' && Nat.beq i j) with
  | true =>
    simp only [Bool.and_eq_true] at hb
    have e1 := Nat.eq_of_beq_eq_true hb.1
    have e2 := Nat.eq_of_beq_eq_true hb.2
    subst e1; subst e2
    simpa [ai_up, upd] using hx
  | false =>
    have h1 : ai_up h k i x k' j = h k' j := by
      unfold ai_up
      by_cases hk : k' = k
      · subst hk
        have hij : ¬ j = i := fun z => by subst z; simp at hb
        simp [upd, hij]
      · rw [if_neg hk]
    rw [h1]
    exact hh k' j
theorem ab_h_cp {G : ab_G} {h : ai_H} {k0 k1 i j : Nat} (hh : ab_h G h) : ab_h ((k1, j, ab_g G k0 i) :: G) (ai_cp h k0 k1 i j 1) := by
  intro k' q
  have e : ab_g ((k1, j, ab_g G k0 i) :: G) k' q = bif Nat.beq k1 k' && Nat.beq j q then ab_g G k0 i else ab_g G k' q := rfl
  rw [e]
  cases hb : (Nat.beq k1 k' && Nat.beq j q) with
  | true =>
    simp only [Bool.and_eq_true] at hb
    have e1 := Nat.eq_of_beq_eq_true hb.1
    have e2 := Nat.eq_of_beq_eq_true hb.2
    subst e1; subst e2
    have h1 : ai_cp h k0 k1 i j 1 k1 j = h k0 i := by
      unfold ai_cp
      rw [if_pos rfl, pk_cpy_in (Nat.le_refl _) (by omega)]
      rw [Nat.sub_self, Nat.add_zero]
    rw [h1]
    exact hh k0 i
  | false =>
    have h1 : ai_cp h k0 k1 i j 1 k' q = h k' q := by
      unfold ai_cp
      by_cases hk : k' = k1
      · subst hk
        have hij : ¬ j = q := fun z => by subst z; simp at hb
        rw [if_pos rfl, pk_cpy_out (by omega)]
      · rw [if_neg hk]
    rw [h1]
    exact hh k' q
theorem ab_s_ret {r : Option (Nat × Nat)} {v : Option Value} {A : List ab_V} {S : List Value} (hr : ab_r r v) (hs : ab_s A S) : ab_s (ab_ref r A) (v.toList ++ S) := by
  rcases r with _ | p
  · rcases v with _ | v
    · exact hs
    · exact hr.elim
  · rcases v with _ | v
    · exact hr.elim
    · cases v <;> first | exact hr.elim | exact ⟨hr, hs⟩
theorem ab_zero : ab_h [] (fun _ _ => 0) := fun k j => by
  show ab_in (2147483648, 2147483648) 0
  unfold ab_in
  rw [ab_U0]
  exact ⟨Nat.le_refl _, Nat.le_refl _⟩
