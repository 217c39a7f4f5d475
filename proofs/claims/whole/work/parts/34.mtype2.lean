def upT (ts : Nat → Ty) (k : Nat) (t : Ty) : Nat → Ty := fun a => if a = k then t else ts a
theorem upT_s (ts : Nat → Ty) (k : Nat) (t : Ty) : upT ts k t k = t := if_pos rfl
theorem upT_n {ts : Nat → Ty} {k a : Nat} (t : Ty) (h : a ≠ k) : upT ts k t a = ts a := if_neg h
theorem pig {ts : Nat → Ty} : ∀ (n lo : Nat) (Z : List Ty), (∀ a, lo ≤ a → a < lo + n → ts a ∈ Z) → (∀ a b, lo ≤ a → a < lo + n → lo ≤ b → b < lo + n → ts a = ts b → a = b) → n ≤ Z.length
  | 0, _, _, _, _ => Nat.zero_le _
  | n + 1, lo, Z, hz, hi => by
    obtain ⟨l1, l2, e⟩ := List.append_of_mem (hz (lo + n) (by omega) (by omega))
    have h1 := pig n lo (l1 ++ l2) (fun a a1 a2 => by
      have := hz a a1 (by omega)
      rw [e] at this
      rcases List.mem_append.mp this with q | q
      · exact List.mem_append.mpr (Or.inl q)
      · rcases List.mem_cons.mp q with q | q
        · have := hi a (lo + n) a1 (by omega) (by omega) (by omega) q
          omega
        · exact List.mem_append.mpr (Or.inr q)) (fun a b a1 a2 b1 b2 => hi a b a1 (by omega) b1 (by omega))
    rw [e]
    simp only [List.length_append, List.length_cons] at h1 ⊢
    omega
/-- the table, its top, and the trees that may stand among the rows of work -/
def mTb (Z : List Ty) (h : ai_H) (ts : Nat → Ty) (m T nd : Nat) : Prop := mTab h ts m T nd ∧ h 0 1 = nI T ∧ (∀ a, 256 ≤ a → a < T → ts a ∈ Z) ∧ Z.length ≤ 6000
/-- what a call may change: arrays F, fields F0 -/
def mFr (F F0 : Nat → Prop) (h h' : ai_H) : Prop := (∀ c j, c ≠ 0 → ¬ F c → h' c j = h c j) ∧ ∀ j, ¬ F0 j → h' 0 j = h 0 j
theorem mFr.rf {F F0 : Nat → Prop} {h : ai_H} : mFr F F0 h h := ⟨fun _ _ _ _ => rfl, fun _ _ => rfl⟩
theorem mFr.tr {F F0 : Nat → Prop} {h h1 h2 : ai_H} (a : mFr F F0 h h1) (b : mFr F F0 h1 h2) : mFr F F0 h h2 := ⟨fun c j q z => (b.1 c j q z).trans (a.1 c j q z), fun j z => (b.2 j z).trans (a.2 j z)⟩
theorem mFr.wk {F F0 G G0 : Nat → Prop} {h h1 : ai_H} (a : mFr F F0 h h1) (f : ∀ c, F c → G c) (f0 : ∀ c, F0 c → G0 c) : mFr G G0 h h1 := ⟨fun c j q z => a.1 c j q (fun w => z (f c w)), fun j z => a.2 j (fun w => z (f0 j w))⟩
def fT (c : Nat) : Prop := 1 ≤ c ∧ c ≤ 9
def fT0 (j : Nat) : Prop := j = 1
theorem lv_mono {m T T' a : Nat} (h : T ≤ T') (q : mLv m T a) : mLv m T' a := by
  rcases q with q | q
  · exact Or.inl q
  · exact Or.inr ⟨q.1, by omega⟩
/-- a row more -/
theorem mTb_add {Z : List Ty} {h h' : ai_H} {ts : Nat → Ty} {m T nd : Nat} {t : Ty} (hT : mTb Z h ts m T nd) (hroom : T < 6256) (hz : t ∈ Z) (hfr : ∀ c j, ¬ mW T c j → h' c j = h c j) (hs : h' 7 T = nI (szT t)) (hne : ∀ a, mLv m T a → ts a ≠ t)
    (hrw : ∀ (ts' : Nat → Ty) (m' T' : Nat), (∀ a, mLv m T a → ts' a = ts a) → ts' T = t → (∀ a, mLv m T a → mLv m' T' a) → mRow h' ts' m' T' nd T) :
    mTb Z (ai_up h' 0 1 (nI (T + 1))) (upT ts T t) m (T + 1) nd ∧ mFr fT fT0 h (ai_up h' 0 1 (nI (T + 1))) := by
  obtain ⟨⟨t0, t1, t2, t3, t4, t5, hrow, hinj⟩, hT1, hZ, hZl⟩ := hT
  have lT : ∀ a, mLv m T a → a ≠ T := fun a q => by rcases q with q | q <;> omega
  have hts : ∀ a, mLv m T a → upT ts T t a = ts a := fun a q => upT_n t (lT a q)
  have hcase : ∀ a, mLv m (T + 1) a → a = T ∨ mLv m T a := by
    intro a q
    rcases q with q | q
    · exact Or.inr (Or.inl q)
    · by_cases e : a = T
      · exact Or.inl e
      · exact Or.inr (Or.inr ⟨q.1, by omega⟩)
  have hc0 : ∀ c j, 1 ≤ c → ai_up h' 0 1 (nI (T + 1)) c j = h' c j := fun c j q => by rw [up_k _ _ (by omega)]
  refine ⟨⟨⟨?_, t1, t2, by omega, by omega, t5, ?_, ?_⟩, up_s _ _ _ _, ?_, hZl⟩, ?_, ?_⟩
  · rw [up_i _ (by decide), hfr 0 0 (by rintro (z | z) <;> omega), t0]
  · intro k hk
    rcases hcase k hk with rfl | hk2
    · refine ⟨?_, ?_⟩
      · have := hrw (upT ts k t) m (k + 1) hts (upT_s _ _ _) (fun a q => lv_mono (by omega) q)
        exact mRow_ext (m := m) (T := k + 1) (ts := upT ts k t) this (Nat.le_refl _) (fun c q1 _ => hc0 c _ q1) (fun i _ => ⟨hc0 8 _ (by omega), hc0 9 _ (by omega)⟩) (fun _ _ => rfl) rfl (fun _ q => q)
      · rw [hc0 7 _ (by omega), hs, upT_s]
    · have hkT := lT k hk2
      have hkl := mLv_lt t2 (by omega) hk2
      refine ⟨?_, ?_⟩
      · have hkT3 : k < T := by rcases hk2 with q | q <;> omega
        exact mRow_ext (hrow k hk2).1 (Nat.le_refl _) (fun c q1 q2 => by rw [hc0 c _ q1, hfr c k (by rintro (z | z) <;> omega)]) (fun i hi => ⟨by rw [hc0 8 _ (by omega), hfr 8 _ (by rintro (z | z) <;> omega)], by rw [hc0 9 _ (by omega), hfr 9 _ (by rintro (z | z) <;> omega)]⟩) hts (hts k hk2) (fun a q => lv_mono (by omega) q)
      · rw [hc0 7 _ (by omega), hfr 7 k (mW7 hkT), (hrow k hk2).2, hts k hk2]
  · intro a b ha hb e
    rcases hcase a ha with rfl | ha2
    · rcases hcase b hb with rfl | hb2
      · rfl
      · rw [upT_s, upT_n t (lT b hb2)] at e
        exact absurd e.symm (hne b hb2)
    · rcases hcase b hb with rfl | hb2
      · rw [upT_s, upT_n t (lT a ha2)] at e
        exact absurd e (hne a ha2)
      · rw [upT_n t (lT a ha2), upT_n t (lT b hb2)] at e
        exact hinj a b ha2 hb2 e
  · intro a a1 a2
    by_cases e : a = T
    · rw [e, upT_s]; exact hz
    · rw [upT_n t e]; exact hZ a a1 (by omega)
  · intro c j c1 c2
    rw [up_k _ _ c1]
    exact hfr c j (by
      intro z
      apply c2
      unfold fT
      rcases z with z | z <;> omega)
  · intro j hj
    rw [up_i _ hj]
    exact hfr 0 j (by rintro (z | z) <;> omega)
theorem mTb_room {Z : List Ty} {h : ai_H} {ts : Nat → Ty} {m T nd : Nat} {t : Ty} (hT : mTb Z h ts m T nd) (hz : t ∈ Z) (hne : ∀ a, mLv m T a → ts a ≠ t) : T < 6256 := by
  obtain ⟨⟨t0, t1, t2, t3, t4, t5, hrow, hinj⟩, hT1, hZ, hZl⟩ := hT
  have := pig (ts := fun a => if a = T then t else ts a) (T + 1 - 256) 256 Z (fun a a1 a2 => by
    by_cases e : a = T
    · simp only [if_pos e]; exact hz
    · simp only [if_neg e]; exact hZ a a1 (by omega)) (fun a b a1 a2 b1 b2 e => by
    by_cases ea : a = T
    · by_cases eb : b = T
      · omega
      · simp only [if_pos ea, if_neg eb] at e
        exact absurd e.symm (hne b (Or.inr ⟨b1, by omega⟩))
    · by_cases eb : b = T
      · simp only [if_pos eb, if_neg ea] at e
        exact absurd e (hne a (Or.inr ⟨a1, by omega⟩))
      · simp only [if_neg ea, if_neg eb] at e
        exact hinj a b (Or.inr ⟨a1, by omega⟩) (Or.inr ⟨b1, by omega⟩) e)
  omega
/-- what a call that makes TYPES gives: the row k of a tree, a table that holds more -/
def mOut (Z : List Ty) (ts : Nat → Ty) (m T nd : Nat) (t : Ty) (k : Nat) (h' : ai_H) : Prop := ∃ (ts' : Nat → Ty) (T' : Nat), mTb Z h' ts' m T' nd ∧ T ≤ T' ∧ (∀ a, mLv m T a → ts' a = ts a) ∧ mLv m T' k ∧ ts' k = t
set_option maxHeartbeats 1000000 in
theorem cM_type {d : Nat} (hd : 2 ≤ d) {Z : List Ty} {h : ai_H} {ts : Nat → Ty} {m T nd : Nat} {x1 x2 x3 x4 x5 : Int32} {t : Ty} (hT : mTb Z h ts m T nd) (hg : mTg h ts m T nd x1 x2 x3 x4 x5 t) (hz : t ∈ Z) :
    ∃ k h', CM d 5 [.ref 0, .int x1, .int x2, .int x3, .int x4, .int x5] h (some (.int (nI k))) h' ∧ mOut Z ts m T nd t k h' ∧ mFr fT fT0 h h' ∧ 10 ≤ k := by
  have hT0 := hT
  obtain ⟨hTab, hT1, hZ, hZl⟩ := hT
  have hTab0 := hTab
  obtain ⟨t0, t1, t2, t3, t4, t5, hrow, hinj⟩ := hTab
  suffices hs : ∃ r h', CM d 5 [.ref 0, .int x1, .int x2, .int x3, .int x4, .int x5] h r h' ∧ ∃ k, r = some (.int (nI k)) ∧ mOut Z ts m T nd t k h' ∧ mFr fT fT0 h h' ∧ 10 ≤ k by
    obtain ⟨r, h', hc, k, rfl, q⟩ := hs
    exact ⟨k, h', hc, q⟩
  refine iM (by omega) rfl ?_
  have found : ∀ k, mLv m T k → 10 ≤ k → ts k = t → ∃ k', some (Value.int (nI k)) = some (Value.int (nI k')) ∧ mOut Z ts m T nd t k' h ∧ mFr fT fT0 h h ∧ 10 ≤ k' := fun k hk h10 e => ⟨k, rfl, ⟨ts, T, hT0, Nat.le_refl _, fun _ _ => rfl, hk, e⟩, mFr.rf, h10⟩
  -- the rows of work
  have L2 : ∀ (f k : Nat), T - k ≤ f → 256 ≤ k → k ≤ T → (∀ a, mLv m T a → (a < 256 ∨ a < k) → ts a ≠ t) → RM (d - 1) 5 (fun r h' => ∃ k, r = some (.int (nI k)) ∧ mOut Z ts m T nd t k h' ∧ mFr fT fT0 h h' ∧ 10 ≤ k) 43 [some (.ref 0), some (.int x1), some (.int x2), some (.int x3), some (.int x4), some (.int x5), some (.int (nI k))] [] h := by
    intro f
    induction f with
    | zero =>
      intro k a1 a2 a3 a4
      have hk : k = T := by omega
      subst hk
      have hne : ∀ a, mLv m k a → ts a ≠ t := fun a q => a4 a q (by rcases q with q | q <;> omega)
      have hroom := mTb_room hT0 hz hne
      obtain ⟨h1, c1, c2, c3, c4⟩ := cM_write (d := d - 1) (by omega) hTab0 hroom (fun j q => by rcases q with q | q <;> omega) (by omega) hg
      refine sM_5_43 ⟨fun _ => ⟨h1, by rw [hT1]; exact c1, ?_⟩, fun c => absurd ?_ c⟩
      · have e1 : h1 0 1 = nI k := by rw [c2 0 1 (by rintro (z | z) <;> omega), hT1]
        obtain ⟨z1, z2⟩ := mTb_add hT0 hroom hz c2 c3 hne c4
        rw [e1, nI_1, nI_pred]
        exact ⟨k, rfl, ⟨_, k + 1, z1, by omega, fun a q => upT_n t (by rcases q with q | q <;> omega), Or.inr ⟨a2, by omega⟩, upT_s _ _ _⟩, z2, by omega⟩
      · rw [hT1]; exact Int32.le_refl _
    | succ f ih =>
      intro k a1 a2 a3 a4
      rcases Nat.lt_or_ge k T with hkT | hkT
      · have hlv : mLv m T k := Or.inr ⟨a2, hkT⟩
        obtain ⟨r, c1, c2⟩ := cM_isSame (d := d - 1) (by omega) hTab0 hlv (by omega) hg
        refine sM_5_43 ⟨fun c => ?_, fun _ => ⟨r, h, c1, fun c => ?_, fun c => ?_⟩⟩
        · rw [hT1, leN (by omega) (by omega)] at c; omega
        · rcases c2 with ⟨e, -⟩ | ⟨-, e⟩
          · rw [e] at c; exact absurd c (by decide)
          · rw [nI_1]
            exact ih (k + 1) (by omega) (by omega) (by omega) (fun a q z => by
              rcases Nat.lt_or_ge a k with y | y
              · exact a4 a q (Or.inr y)
              · rcases z with z | z
                · exact a4 a q (Or.inl z)
                · have : a = k := by omega
                  rw [this]; exact e)
        · rcases c2 with ⟨-, e⟩ | ⟨e, -⟩
          · exact found k hlv (by omega) e
          · exact absurd e c
      · exact ih k (by omega) a2 a3 a4
  -- the NODES
  have L1 : ∀ (f k : Nat), m - k ≤ f → 10 ≤ k → k ≤ m → (∀ a, 10 ≤ a → a < k → ts a ≠ t) → RM (d - 1) 5 (fun r h' => ∃ k, r = some (.int (nI k)) ∧ mOut Z ts m T nd t k h' ∧ mFr fT fT0 h h' ∧ 10 ≤ k) 4 [some (.ref 0), some (.int x1), some (.int x2), some (.int x3), some (.int x4), some (.int x5), some (.int (nI k))] [] h := by
    intro f
    induction f with
    | zero =>
      intro k a1 a2 a3 a4
      have hk : k = m := by omega
      subst hk
      refine sM_5_4 ⟨fun _ => ?_, fun c => absurd ?_ c⟩
      · refine L2 (T - 256) 256 (by omega) (by omega) t3 (fun a q z => ?_)
        have ha : a < k := by rcases q with q | q <;> omega
        rcases Nat.lt_or_ge a 10 with y | y
        · have hr := (hrow a q).1
          rcases hr with ⟨w1, w2, w3⟩ | ⟨w0, -⟩ | ⟨w0, -⟩ | ⟨w0, -⟩
          · rw [w2]
            rcases hg with ⟨-, d1, p1, -, -, -, -, rfl⟩ | ⟨-, e1, -, -, rfl⟩ | ⟨-, d1, n1, g, ot, -, -, -, -, rfl⟩
            · simp [tP, tV]
            · simp [tP, tA]
            · simp [tP, tC]
          · omega
          · omega
          · omega
        · exact a4 a y ha
      · rw [t0]; exact Int32.le_refl _
    | succ f ih =>
      intro k a1 a2 a3 a4
      rcases Nat.lt_or_ge k m with hkm | hkm
      · have hlv : mLv m T k := Or.inl hkm
        obtain ⟨r, c1, c2⟩ := cM_isSame (d := d - 1) (by omega) hTab0 hlv a2 hg
        refine sM_5_4 ⟨fun c => ?_, fun _ => ⟨r, h, c1, fun c => ?_, fun c => ?_⟩⟩
        · rw [t0, leN (by omega) (by omega)] at c; omega
        · rcases c2 with ⟨e, -⟩ | ⟨-, e⟩
          · rw [e] at c; exact absurd c (by decide)
          · rw [nI_1]
            exact ih (k + 1) (by omega) (by omega) (by omega) (fun a q z => by
              rcases Nat.lt_or_ge a k with y | y
              · exact a4 a q y
              · have : a = k := by omega
                rw [this]; exact e)
        · rcases c2 with ⟨-, e⟩ | ⟨e, -⟩
          · exact found k hlv a2 e
          · exact absurd e c
      · exact ih k (by omega) a2 a3 a4
  exact sM_5_0 (L1 (m - 10) 10 (by omega) (by omega) (by omega) (fun a q z => by omega))
