/-! THE REFERENCE'S TABLE: rows and trees -/
theorem clp {k : Nat} (h : k < 1000000) : (nI k).toNatClampNeg = k := nI_clamp (by omega)
theorem mul3 (k i : Nat) : (3 * nI k + nI i : Int32) = nI (3 * k + i) := by
  rw [show (3 : Int32) = nI 3 from rfl, pk_mul, nI_add]
theorem inN {k N : Nat} (h : k < N) (hN : N < 1000000) : vp_in (nI k) N := vp_in_nI h (by omega)
theorem neN {a b : Nat} (ha : a < 1000000) (hb : b < 1000000) : nI a = nI b ↔ a = b := nI_eq (by omega) (by omega)
theorem leN {a b : Nat} (ha : a < 1000000) (hb : b < 1000000) : nI a ≤ nI b ↔ a ≤ b := nI_leI (by omega) (by omega)
theorem ltN {a b : Nat} (ha : a < 1000000) (hb : b < 1000000) : nI a < nI b ↔ a < b := nI_ltI (by omega) (by omega)
theorem n1N {a : Nat} (ha : a < 1000000) : ¬ nI a = -1 := by
  intro h
  have h1 := congrArg Int32.toInt h
  rw [nI_toInt (by omega)] at h1
  have h2 : (-1 : Int32).toInt = -1 := by decide
  omega
theorem n1N' {a : Nat} (ha : a < 1000000) : ¬ (-1 : Int32) = nI a := fun h => n1N ha h.symm
theorem gt0N {a : Nat} (ha : a < 1000000) : ¬ nI a < 0 := nI_pos (by omega)
theorem m1lt : (-1 : Int32) < 0 := by decide
theorem up_s (h : ai_H) (k i : Nat) (x : Int32) : ai_up h k i x k i = x := by simp [ai_up, upd]
theorem up_k {h : ai_H} {k c : Nat} (i : Nat) (x : Int32) (hc : c ≠ k) : ai_up h k i x c = h c := by simp [ai_up, hc]
theorem up_i {h : ai_H} {k i j : Nat} (x : Int32) (hj : j ≠ i) : ai_up h k i x k j = h k j := by simp [ai_up, upd, hj]
theorem up_e (h : ai_H) (k i : Nat) (x : Int32) (c j : Nat) : ai_up h k i x c j = if c = k ∧ j = i then x else h c j := by
  by_cases hc : c = k
  · subst hc
    by_cases hj : j = i <;> simp [ai_up, upd, hj]
  · simp [ai_up, hc]
def mLv (m T k : Nat) : Prop := k < m ∨ (256 ≤ k ∧ k < T)
def mAg (h : ai_H) (ts : Nat → Ty) (m T k j : Nat) (g : Ty) : Prop := (h 8 j = 3 ∧ h 9 j = -1 ∧ g = tY) ∨ ∃ w a, w < 3 ∧ h 8 j = nI w ∧ h 9 j = nI a ∧ a < k ∧ mLv m T a ∧ 10 ≤ a ∧ g = tG w (ts a)
def mRow (h : ai_H) (ts : Nat → Ty) (m T nd k : Nat) : Prop :=
  (k < 10 ∧ ts k = tP k ∧ h 1 k = nI (if k < 8 then 0 else k - 7)) ∨
  (10 ≤ k ∧ ∃ d p, ts k = tV d p ∧ h 1 k = 3 ∧ h 2 k = nI d ∧ h 3 k = nI p ∧ d < nd ∧ p < 3) ∨
  (10 ≤ k ∧ ∃ e, ts k = tA (ts e) ∧ h 1 k = 4 ∧ h 4 k = nI e ∧ e < k ∧ mLv m T e) ∨
  (10 ≤ k ∧ ∃ (d n : Nat) (g : Nat → Ty) (ot : Ty), ts k = tC d ot (g 0) (g 1) (g 2) ∧ h 1 k = 5 ∧ h 2 k = nI d ∧ d < nd ∧ h 6 k = nI n ∧ n ≤ 3 ∧
    ((h 5 k = -1 ∧ ot = tN) ∨ ∃ o, h 5 k = nI o ∧ o < k ∧ mLv m T o ∧ 10 ≤ o ∧ ot = ts o ∧ foT (ts o) = 5) ∧
    (∀ i, i < n → mAg h ts m T k (3 * k + i) (g i)) ∧ ∀ i, n ≤ i → g i = tN)
def mTab (h : ai_H) (ts : Nat → Ty) (m T nd : Nat) : Prop :=
  h 0 0 = nI m ∧ 11 ≤ m ∧ m ≤ 200 ∧ 256 ≤ T ∧ T ≤ 6256 ∧ nd ≤ 12 ∧
  (∀ k, mLv m T k → mRow h ts m T nd k ∧ h 7 k = nI (szT (ts k))) ∧ ∀ k j, mLv m T k → mLv m T j → ts k = ts j → k = j
def mNs (h : ai_H) (ts : Nat → Ty) (m T i : Nat) (g : Ty) : Prop := (h 21 i = 3 ∧ g = tY) ∨ ∃ w x, w < 3 ∧ h 21 i = nI w ∧ h 22 i = nI x ∧ mLv m T x ∧ 10 ≤ x ∧ g = tG w (ts x)
def mNw (h : ai_H) (ts : Nat → Ty) (m T n : Nat) (g : Nat → Ty) : Prop := h 0 24 = nI n ∧ n ≤ 3 ∧ (∀ i, i < n → mNs h ts m T i (g i)) ∧ ∀ i, n ≤ i → g i = tN
/-- what is asked of type(): a VARIABLE, an ARRAY, a CLASS TYPE with the new ARGUMENTS -/
def mTg (h : ai_H) (ts : Nat → Ty) (m T nd : Nat) (x1 x2 x3 x4 x5 : Int32) (t : Ty) : Prop :=
  (x1 = 3 ∧ ∃ d p, x2 = nI d ∧ x3 = nI p ∧ d < nd ∧ p < 3 ∧ t = tV d p) ∨
  (x1 = 4 ∧ ∃ e, x4 = nI e ∧ mLv m T e ∧ t = tA (ts e)) ∨
  (x1 = 5 ∧ ∃ (d n : Nat) (g : Nat → Ty) (ot : Ty), x2 = nI d ∧ d < nd ∧ mNw h ts m T n g ∧ ((x5 = -1 ∧ ot = tN) ∨ ∃ o, x5 = nI o ∧ mLv m T o ∧ 10 ≤ o ∧ ot = ts o ∧ foT (ts o) = 5) ∧ t = tC d ot (g 0) (g 1) (g 2))
theorem mLv_lt {m T k : Nat} (hm : m ≤ 200) (hT : T ≤ 6256) (h : mLv m T k) : k < 6256 := by
  rcases h with h | h <;> omega
/-- in(v, low, high) -/
theorem cM_in (d : Nat) (h : ai_H) (v lo hi : Int32) : CM (d + 1) 0 [.int v, .int lo, .int hi] h (some (.int (if v < lo then 0 else if hi < v then 0 else 1))) h := by
  obtain ⟨r, h2, hc, e1, e2⟩ := intM (d := d) (i := 0) (as := [.int v, .int lo, .int hi]) (h := h) (Q := fun r h2 => r = some (.int (if v < lo then 0 else if hi < v then 0 else 1)) ∧ h2 = h) rfl (sM_0_0 ⟨fun c => ⟨by rw [if_pos c], rfl⟩, fun c => ⟨fun c2 => ⟨by rw [if_neg c, if_pos c2], rfl⟩, fun c2 => ⟨by rw [if_neg c, if_neg c2], rfl⟩⟩⟩)
  rw [e1, e2] at hc
  exact hc
theorem in01 (v lo hi : Int32) : (if v < lo then (0 : Int32) else if hi < v then 0 else 1) = 0 ∨ (if v < lo then (0 : Int32) else if hi < v then 0 else 1) = 1 := by
  split
  · exact Or.inl rfl
  · split
    · exact Or.inl rfl
    · exact Or.inr rfl
theorem cM_isNode (d : Nat) (h : ai_H) (x : Int32) : CM (d + 2) 1 [.ref 0, .int x] h (some (.int (if x < 0 then 0 else if h 0 0 - 1 < x then 0 else 1))) h := by
  obtain ⟨r, h2, hc, e1, e2⟩ := intM (d := d + 1) (i := 1) (as := [.ref 0, .int x]) (h := h) (Q := fun r h2 => r = some (.int (if x < 0 then 0 else if h 0 0 - 1 < x then 0 else 1)) ∧ h2 = h) rfl (sM_1_0 ⟨_, _, cM_in d h _ _ _, in01 _ _ _, rfl, rfl⟩)
  rw [e1, e2] at hc
  exact hc
theorem cM_isDecl (d : Nat) (h : ai_H) (x : Int32) : CM (d + 2) 2 [.ref 0, .int x] h (some (.int (if x < 0 then 0 else if h 0 13 - 1 < x then 0 else 1))) h := by
  obtain ⟨r, h2, hc, e1, e2⟩ := intM (d := d + 1) (i := 2) (as := [.ref 0, .int x]) (h := h) (Q := fun r h2 => r = some (.int (if x < 0 then 0 else if h 0 13 - 1 < x then 0 else 1)) ∧ h2 = h) rfl (sM_2_0 ⟨_, _, cM_in d h _ _ _, in01 _ _ _, rfl, rfl⟩)
  rw [e1, e2] at hc
  exact hc
