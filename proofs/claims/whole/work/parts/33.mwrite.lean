def mW (k c j : Nat) : Prop := (1 ≤ c ∧ c ≤ 7 ∧ j = k) ∨ ((c = 8 ∨ c = 9) ∧ 3 * k ≤ j ∧ j < 3 * k + 3)
theorem mW7 {k j : Nat} (h : j ≠ k) : ¬ mW k 7 j := by
  rintro (z | z)
  · exact h z.2.2
  · omega
theorem mRow_ext {h h' : ai_H} {ts ts' : Nat → Ty} {m T m' T' nd nd' j : Nat} (hr : mRow h ts m T nd j) (hd : nd ≤ nd') (e1 : ∀ c, 1 ≤ c → c ≤ 6 → h' c j = h c j) (e8 : ∀ i, i < 3 → h' 8 (3 * j + i) = h 8 (3 * j + i) ∧ h' 9 (3 * j + i) = h 9 (3 * j + i)) (hts : ∀ a, mLv m T a → ts' a = ts a) (htj : ts' j = ts j) (hlv : ∀ a, mLv m T a → mLv m' T' a) : mRow h' ts' m' T' nd' j := by
  rcases hr with ⟨w1, w2, w3⟩ | ⟨w0, d2, p2, w1, w2, w3, w4, w5, w6⟩ | ⟨w0, e2, w1, w2, w3, w4, w5⟩ | ⟨w0, d2, n2, g2, o2, w1, w2, w3, w4, w5, w6, w7, w8, w9⟩
  · exact Or.inl ⟨w1, by rw [htj, w2], by rw [e1 1 (by omega) (by omega), w3]⟩
  · exact Or.inr (Or.inl ⟨w0, d2, p2, by rw [htj, w1], by rw [e1 1 (by omega) (by omega), w2], by rw [e1 2 (by omega) (by omega), w3], by rw [e1 3 (by omega) (by omega), w4], by omega, w6⟩)
  · exact Or.inr (Or.inr (Or.inl ⟨w0, e2, by rw [htj, w1, hts e2 w5], by rw [e1 1 (by omega) (by omega), w2], by rw [e1 4 (by omega) (by omega), w3], w4, hlv _ w5⟩))
  · refine Or.inr (Or.inr (Or.inr ⟨w0, d2, n2, g2, o2, by rw [htj, w1], by rw [e1 1 (by omega) (by omega), w2], by rw [e1 2 (by omega) (by omega), w3], by omega, by rw [e1 6 (by omega) (by omega), w5], w6, ?_, ?_, w9⟩))
    · rcases w7 with ⟨u1, u2⟩ | ⟨o, u1, u2, u3, u4, u5, u6⟩
      · exact Or.inl ⟨by rw [e1 5 (by omega) (by omega), u1], u2⟩
      · exact Or.inr ⟨o, by rw [e1 5 (by omega) (by omega), u1], u2, hlv _ u3, u4, by rw [hts o u3, u5], by rw [hts o u3]; exact u6⟩
    · intro i hi
      obtain ⟨q8, q9⟩ := e8 i (by omega)
      rcases w8 i hi with ⟨u1, u2, u3⟩ | ⟨w, a, u1, u2, u3, u4, u5, u6, u7⟩
      · exact Or.inl ⟨by rw [q8, u1], by rw [q9, u2], u3⟩
      · exact Or.inr ⟨w, a, u1, by rw [q8, u2], by rw [q9, u3], u4, hlv _ u5, u6, by rw [hts a u5, u7]⟩
def suG (g : Nat → Ty) : Nat → Nat
  | 0 => 0
  | n + 1 => suG g n + szT (g n)
theorem suG_end {g : Nat → Ty} {n : Nat} (hn : n ≤ 3) (h : ∀ i, n ≤ i → g i = tN) : suG g n = szT (g 0) + szT (g 1) + szT (g 2) := by
  have e : ∀ i, n ≤ i → szT (g i) = 0 := fun i hi => by rw [h i hi]; rfl
  rcases (show n = 0 ∨ n = 1 ∨ n = 2 ∨ n = 3 by omega) with rfl | rfl | rfl | rfl
  · rw [e 0 (by omega), e 1 (by omega), e 2 (by omega)]; rfl
  · rw [e 1 (by omega), e 2 (by omega)]; simp [suG]
  · rw [e 2 (by omega)]; simp [suG]
  · simp [suG]
/-- how many ARGUMENTS a row gets -/
def mAn (x1 : Int32) (n : Nat) : Nat := if x1 = 5 then n else 0
set_option maxHeartbeats 1000000 in
theorem cM_write {d : Nat} (hd : 1 ≤ d) {h : ai_H} {ts : Nat → Ty} {m T nd k : Nat} {x1 x2 x3 x4 x5 : Int32} {t : Ty} (hT : mTab h ts m T nd) (hk : k < 6256) (hlt : ∀ j, mLv m T j → j < k) (hk10 : 10 ≤ k) (hg : mTg h ts m T nd x1 x2 x3 x4 x5 t) :
    ∃ h', CM d 4 [.ref 0, .int (nI k), .int x1, .int x2, .int x3, .int x4, .int x5] h none h' ∧ (∀ c j, ¬ mW k c j → h' c j = h c j) ∧ h' 7 k = nI (szT t) ∧
      ∀ (ts' : Nat → Ty) (m' T' : Nat), (∀ a, mLv m T a → ts' a = ts a) → ts' k = t → (∀ a, mLv m T a → mLv m' T' a) → mRow h' ts' m' T' nd k := by
  have hT0 := hT
  obtain ⟨-, t1, t2, t3, t4, t5, hrow, hinj⟩ := hT
  -- the number of ARGUMENTS and the size of the inner part
  obtain ⟨n, g, s0, hn3, hna, hgs, hs0, hsz⟩ : ∃ (n : Nat) (g : Nat → Ty) (s0 : Nat), n ≤ 3 ∧ ((¬ x1 = 5 ∧ n = 0) ∨ (x1 = 5 ∧ h 0 24 = nI n)) ∧ (∀ i, i < n → mNs h ts m T i (g i)) ∧ ((¬ x1 = 4 ∧ ¬ x1 = 5 ∧ s0 = 0) ∨ (¬ x1 = 4 ∧ x1 = 5 ∧ x5 < 0 ∧ s0 = 0) ∨ (¬ x1 = 4 ∧ x1 = 5 ∧ ¬ x5 < 0 ∧ ∃ o, x5 = nI o ∧ mLv m T o ∧ s0 = szT (ts o)) ∨ (x1 = 4 ∧ ∃ o, x4 = nI o ∧ mLv m T o ∧ s0 = szT (ts o))) ∧ szT t = 1 + s0 + suG g n := by
    rcases hg with ⟨rfl, d1, p1, -, -, -, -, rfl⟩ | ⟨rfl, e1, r1, g3, rfl⟩ | ⟨rfl, d1, n1, g, ot, r1, g3, g4, g5, rfl⟩
    · exact ⟨0, fun _ => tN, 0, by omega, Or.inl ⟨by decide, rfl⟩, fun i hi => by omega, Or.inl ⟨by decide, by decide, rfl⟩, rfl⟩
    · exact ⟨0, fun _ => tN, szT (ts e1), by omega, Or.inl ⟨by decide, rfl⟩, fun i hi => by omega, Or.inr (Or.inr (Or.inr ⟨rfl, e1, r1, g3, rfl⟩)), rfl⟩
    · refine ⟨n1, g, szT ot, g4.2.1, Or.inr ⟨rfl, g4.1⟩, g4.2.2.1, ?_, ?_⟩
      · rcases g5 with ⟨v1, v2⟩ | ⟨o', v1, v2, v3, v4, v5⟩
        · exact Or.inr (Or.inl ⟨by decide, rfl, by rw [v1]; decide, by rw [v2]; rfl⟩)
        · have := mLv_lt t2 t4 v2
          exact Or.inr (Or.inr (Or.inl ⟨by decide, rfl, by rw [v1]; exact gt0N (by omega), o', v1, v2, by rw [v4]⟩))
      · rw [suG_end g4.2.1 g4.2.2.2]
        simp only [tC, szT]; omega
  have nk : ∀ j, mLv m T j → j ≠ k := fun j hj => Nat.ne_of_lt (hlt j hj)
  suffices hs : ∃ r h', CM d 4 [.ref 0, .int (nI k), .int x1, .int x2, .int x3, .int x4, .int x5] h r h' ∧ (r = none ∧ (∀ c j, ¬ mW k c j → h' c j = h c j) ∧ h' 1 k = x1 ∧ h' 2 k = x2 ∧ h' 3 k = x3 ∧ h' 4 k = x4 ∧ h' 5 k = x5 ∧ h' 6 k = nI n ∧ (∀ i, i < n → h' 8 (3 * k + i) = h 21 i ∧ h' 9 (3 * k + i) = (if h 21 i = 3 then -1 else h 22 i)) ∧ h' 7 k = nI (szT t)) by
    obtain ⟨r, h', hc, rfl, q0, q1, q2, q3, q4, q5, q6, q7, q8⟩ := hs
    refine ⟨h', hc, q0, q8, fun ts' m' T' hts htk hlv => ?_⟩
    rcases hg with ⟨rfl, d1, p1, r1, r2, r3, r4, rfl⟩ | ⟨rfl, e1, r1, g3, rfl⟩ | ⟨rfl, d1, n1, g, ot, r1, g3, g4, g5, rfl⟩
    · exact Or.inr (Or.inl ⟨hk10, d1, p1, htk, q1, by rw [q2, r1], by rw [q3, r2], r3, r4⟩)
    · exact Or.inr (Or.inr (Or.inl ⟨hk10, e1, by rw [htk, hts e1 g3], q1, by rw [q4, r1], hlt e1 g3, hlv _ g3⟩))
    · have hn1 : n = n1 := by
        rcases hna with ⟨z, -⟩ | ⟨-, z⟩
        · exact absurd rfl z
        · rw [g4.1, neN (by have := g4.2.1; omega) (by omega)] at z
          exact z.symm
      subst hn1
      refine Or.inr (Or.inr (Or.inr ⟨hk10, d1, n, g, ot, htk, q1, by rw [q2, r1], g3, q6, hn3, ?_, ?_, g4.2.2.2⟩))
      · rcases g5 with ⟨v1, v2⟩ | ⟨o', v1, v2, v3, v4, v5⟩
        · exact Or.inl ⟨by rw [q5, v1], v2⟩
        · exact Or.inr ⟨o', by rw [q5, v1], hlt _ v2, hlv _ v2, v3, by rw [hts o' v2, v4], by rw [hts o' v2]; exact v5⟩
      · intro i hi
        obtain ⟨z8, z9⟩ := q7 i hi
        rcases g4.2.2.1 i hi with ⟨u1, u2⟩ | ⟨w, a, u1, u2, u3, u4, u5, u6⟩
        · exact Or.inl ⟨by rw [z8, u1], by rw [z9, if_pos u1], u2⟩
        · refine Or.inr ⟨w, a, u1, by rw [z8, u2], ?_, hlt _ u4, hlv _ u4, u5, by rw [hts a u4, u6]⟩
          rw [z9, if_neg, u3]
          rw [u2, show (3 : Int32) = nI 3 from rfl, neN (by omega) (by omega)]; omega
  refine iM hd rfl ?_
  have kk : vp_in (nI k) 6256 := inN hk (by decide)
  have fr : ∀ (H : ai_H) (c i : Nat) (x : Int32), mW k c i → (∀ c j, ¬ mW k c j → H c j = h c j) → ∀ c' j, ¬ mW k c' j → ai_up H c i x c' j = h c' j := by
    intro H c i x hw hH c' j hn
    rw [up_e, if_neg, hH c' j hn]
    rintro ⟨rfl, rfl⟩
    exact hn hw
  -- the second loop
  have L2 : ∀ (f i : Nat) (H : ai_H), n - i ≤ f → i ≤ n → (∀ c j, ¬ mW k c j → H c j = h c j) → H 1 k = x1 → H 2 k = x2 → H 3 k = x3 → H 4 k = x4 → H 5 k = x5 → H 6 k = nI n → (∀ i, i < n → H 8 (3 * k + i) = h 21 i ∧ H 9 (3 * k + i) = (if h 21 i = 3 then -1 else h 22 i)) → H 7 k = nI (1 + s0 + suG g i) →
      RM (d - 1) 4 (fun r h' => r = none ∧ (∀ c j, ¬ mW k c j → h' c j = h c j) ∧ h' 1 k = x1 ∧ h' 2 k = x2 ∧ h' 3 k = x3 ∧ h' 4 k = x4 ∧ h' 5 k = x5 ∧ h' 6 k = nI n ∧ (∀ i, i < n → h' 8 (3 * k + i) = h 21 i ∧ h' 9 (3 * k + i) = (if h 21 i = 3 then -1 else h 22 i)) ∧ h' 7 k = nI (szT t)) 175 [some (.ref 0), some (.int (nI k)), some (.int x1), some (.int x2), some (.int x3), some (.int x4), some (.int x5), some (.int (nI i))] [] H := by
    intro f
    induction f with
    | zero =>
      intro i H a1 a2 a3 b1 b2 b3 b4 b5 b6 b8 b7
      have hi : i = n := by omega
      subst hi
      refine sM_4_175 ⟨kk, fun _ => ⟨rfl, a3, b1, b2, b3, b4, b5, b6, b8, by rw [b7, hsz]⟩, fun c => absurd ?_ c⟩
      rw [clp (by omega), b6]; exact Int32.le_refl _
    | succ f ih =>
      intro i H a1 a2 a3 b1 b2 b3 b4 b5 b6 b8 b7
      refine sM_4_175 ⟨kk, fun c => ?_, fun c => ?_⟩
      · rw [clp (by omega), b6, leN (by omega) (by omega)] at c
        have hi : i = n := by omega
        subst hi
        exact ⟨rfl, a3, b1, b2, b3, b4, b5, b6, b8, by rw [b7, hsz]⟩
      · rw [clp (by omega), b6, leN (by omega) (by omega)] at c
        rw [clp (by omega)]
        have hin : i < n := by omega
        have w7 : mW k 7 k := Or.inl ⟨by omega, by omega, rfl⟩
        have n21 : ∀ j, H 21 j = h 21 j := fun j => a3 21 j (by rintro (z | z) <;> omega)
        have n22 : ∀ j, H 22 j = h 22 j := fun j => a3 22 j (by rintro (z | z) <;> omega)
        rw [clp (by omega), n21, n22, b7, nI_1]
        refine ⟨inN (by omega) (by decide), fun c3 => ?_, fun c3 => ?_⟩
        · rcases hgs i hin with ⟨u1, u2⟩ | ⟨w, a, u1, u2, u3, u4, u5, u6⟩
          · exact absurd u1 c3
          · have := mLv_lt t2 t4 u4
            rw [u3, clp (by omega), a3 7 a (mW7 (nk a u4)), (hrow a u4).2, nI_add]
            refine ⟨inN (by omega) (by decide), ih (i + 1) _ (by omega) (by omega) (fr H 7 k _ w7 a3) ?_ ?_ ?_ ?_ ?_ ?_ ?_ ?_⟩
            · rw [up_k _ _ (by decide), b1]
            · rw [up_k _ _ (by decide), b2]
            · rw [up_k _ _ (by decide), b3]
            · rw [up_k _ _ (by decide), b4]
            · rw [up_k _ _ (by decide), b5]
            · rw [up_k _ _ (by decide), b6]
            · intro j hj; rw [up_k _ _ (by decide), up_k _ _ (by decide)]; exact b8 j hj
            · rw [up_s, suG, u6]
              have : szT (tG w (ts a)) = szT (ts a) := rfl
              rw [this]; congr 1; omega
        · rcases hgs i hin with ⟨u1, u2⟩ | ⟨w, a, u1, u2, u3, u4, u5, u6⟩
          · refine ih (i + 1) _ (by omega) (by omega) (fr H 7 k _ w7 a3) ?_ ?_ ?_ ?_ ?_ ?_ ?_ ?_
            · rw [up_k _ _ (by decide), b1]
            · rw [up_k _ _ (by decide), b2]
            · rw [up_k _ _ (by decide), b3]
            · rw [up_k _ _ (by decide), b4]
            · rw [up_k _ _ (by decide), b5]
            · rw [up_k _ _ (by decide), b6]
            · intro j hj; rw [up_k _ _ (by decide), up_k _ _ (by decide)]; exact b8 j hj
            · rw [up_s, suG, u2]
              have : szT tY = 0 := rfl
              rw [this, show (0 : Int32) = nI 0 from rfl, nI_add]; congr 1
          · exfalso
            rw [u2, show (3 : Int32) = nI 3 from rfl, neN (by omega) (by omega)] at c3
            omega
  -- the first loop
  have L1 : ∀ (f i : Nat) (H : ai_H), n - i ≤ f → i ≤ n → (∀ c j, ¬ mW k c j → H c j = h c j) → H 1 k = x1 → H 2 k = x2 → H 3 k = x3 → H 4 k = x4 → H 5 k = x5 → H 6 k = nI n → (∀ j, j < i → H 8 (3 * k + j) = h 21 j ∧ H 9 (3 * k + j) = (if h 21 j = 3 then -1 else h 22 j)) →
      RM (d - 1) 4 (fun r h' => r = none ∧ (∀ c j, ¬ mW k c j → h' c j = h c j) ∧ h' 1 k = x1 ∧ h' 2 k = x2 ∧ h' 3 k = x3 ∧ h' 4 k = x4 ∧ h' 5 k = x5 ∧ h' 6 k = nI n ∧ (∀ i, i < n → h' 8 (3 * k + i) = h 21 i ∧ h' 9 (3 * k + i) = (if h 21 i = 3 then -1 else h 22 i)) ∧ h' 7 k = nI (szT t)) 60 [some (.ref 0), some (.int (nI k)), some (.int x1), some (.int x2), some (.int x3), some (.int x4), some (.int x5), some (.int (nI i))] [] H := by
    intro f
    induction f with
    | zero =>
      intro i H a1 a2 a3 b1 b2 b3 b4 b5 b6 b8
      have hi : i = n := by omega
      subst hi
      have w7 : mW k 7 k := Or.inl ⟨by omega, by omega, rfl⟩
      have fin : ∀ x : Int32, x = nI (1 + s0) → RM (d - 1) 4 (fun r h' => r = none ∧ (∀ c j, ¬ mW k c j → h' c j = h c j) ∧ h' 1 k = x1 ∧ h' 2 k = x2 ∧ h' 3 k = x3 ∧ h' 4 k = x4 ∧ h' 5 k = x5 ∧ h' 6 k = nI i ∧ (∀ j, j < i → h' 8 (3 * k + j) = h 21 j ∧ h' 9 (3 * k + j) = (if h 21 j = 3 then -1 else h 22 j)) ∧ h' 7 k = nI (szT t)) 175 [some (.ref 0), some (.int (nI k)), some (.int x1), some (.int x2), some (.int x3), some (.int x4), some (.int x5), some (.int 0)] [] (ai_up H 7 k x) := by
        intro x hx
        refine L2 i 0 _ (by omega) (by omega) (fr H 7 k _ w7 a3) ?_ ?_ ?_ ?_ ?_ ?_ ?_ ?_
        · rw [up_k _ _ (by decide), b1]
        · rw [up_k _ _ (by decide), b2]
        · rw [up_k _ _ (by decide), b3]
        · rw [up_k _ _ (by decide), b4]
        · rw [up_k _ _ (by decide), b5]
        · rw [up_k _ _ (by decide), b6]
        · intro j hj; rw [up_k _ _ (by decide), up_k _ _ (by decide)]; exact b8 j hj
        · rw [up_s, hx]; rfl
      refine sM_4_60 ⟨kk, ?_⟩
      rw [clp (by omega), b6, leN (by omega) (by omega)]
      refine ⟨fun _ => ?_, fun c => absurd (Nat.le_refl _) c⟩
      rcases hs0 with ⟨y1, y2, y3⟩ | ⟨y1, y2, y3, y4⟩ | ⟨y1, y2, y3, o, y4, y5, y6⟩ | ⟨y1, o, y4, y5, y6⟩
      · exact ⟨fun _ => ⟨fun _ => fin _ (by rw [y3]; rfl), fun c => absurd c y2⟩, fun c => absurd c y1⟩
      · exact ⟨fun _ => ⟨fun c => absurd y2 c, fun _ => ⟨fun _ => fin _ (by rw [y4]; rfl), fun c => absurd y3 c⟩⟩, fun c => absurd c y1⟩
      · have := mLv_lt t2 t4 y5
        refine ⟨fun _ => ⟨fun c => absurd y2 c, fun _ => ⟨fun c => absurd c y3, fun _ => ⟨by rw [y4]; exact inN (by omega) (by decide), fin _ ?_⟩⟩⟩, fun c => absurd c y1⟩
        rw [y4, clp (by omega), a3 7 o (mW7 (nk o y5)), (hrow o y5).2, show (1 : Int32) = nI 1 from rfl, nI_add, y6]
      · have := mLv_lt t2 t4 y5
        refine ⟨fun c => absurd y1 c, fun _ => ⟨by rw [y4]; exact inN (by omega) (by decide), fin _ ?_⟩⟩
        rw [y4, clp (by omega), a3 7 o (mW7 (nk o y5)), (hrow o y5).2, show (1 : Int32) = nI 1 from rfl, nI_add, y6]
    | succ f ih =>
      intro i H a1 a2 a3 b1 b2 b3 b4 b5 b6 b8
      rcases Nat.lt_or_ge i n with hin | hin
      · refine sM_4_60 ⟨kk, ?_⟩
        rw [clp (by omega), b6, leN (by omega) (by omega)]
        refine ⟨fun c => by omega, fun _ => ?_⟩
        have n21 : ∀ j, H 21 j = h 21 j := fun j => a3 21 j (by rintro (z | z) <;> omega)
        have n22 : ∀ j, H 22 j = h 22 j := fun j => a3 22 j (by rintro (z | z) <;> omega)
        have w8 : mW k 8 (3 * k + i) := Or.inr ⟨Or.inl rfl, by omega, by omega⟩
        have w9 : mW k 9 (3 * k + i) := Or.inr ⟨Or.inr rfl, by omega, by omega⟩
        rw [mul3, clp (by omega), clp (by omega), n21, n22, nI_1]
        have step : ∀ x : Int32, x = (if h 21 i = 3 then -1 else h 22 i) → RM (d - 1) 4 (fun r h' => r = none ∧ (∀ c j, ¬ mW k c j → h' c j = h c j) ∧ h' 1 k = x1 ∧ h' 2 k = x2 ∧ h' 3 k = x3 ∧ h' 4 k = x4 ∧ h' 5 k = x5 ∧ h' 6 k = nI n ∧ (∀ i, i < n → h' 8 (3 * k + i) = h 21 i ∧ h' 9 (3 * k + i) = (if h 21 i = 3 then -1 else h 22 i)) ∧ h' 7 k = nI (szT t)) 60 [some (.ref 0), some (.int (nI k)), some (.int x1), some (.int x2), some (.int x3), some (.int x4), some (.int x5), some (.int (nI (i + 1)))] [] (ai_up (ai_up H 8 (3 * k + i) (h 21 i)) 9 (3 * k + i) x) := by
          intro x hx
          refine ih (i + 1) _ (by omega) (by omega) (fr _ 9 _ _ w9 (fr H 8 _ _ w8 a3)) ?_ ?_ ?_ ?_ ?_ ?_ ?_
          · rw [up_k _ _ (by decide), up_k _ _ (by decide), b1]
          · rw [up_k _ _ (by decide), up_k _ _ (by decide), b2]
          · rw [up_k _ _ (by decide), up_k _ _ (by decide), b3]
          · rw [up_k _ _ (by decide), up_k _ _ (by decide), b4]
          · rw [up_k _ _ (by decide), up_k _ _ (by decide), b5]
          · rw [up_k _ _ (by decide), up_k _ _ (by decide), b6]
          · intro j hj
            rcases Nat.lt_or_ge j i with q | q
            · rw [up_k _ _ (by decide), up_i _ (by omega), up_i _ (by omega), up_k _ _ (by decide)]
              exact b8 j q
            · have : j = i := by omega
              subst this
              rw [up_k _ _ (by decide), up_s, up_s]
              exact ⟨rfl, hx⟩
        refine ⟨inN (by omega) (by decide), inN (by omega) (by decide), fun c3 => step _ (by rw [if_neg c3]), fun c3 => step _ (by rw [if_pos c3])⟩
      · have hi : i = n := by omega
        exact ih i H (by omega) a2 a3 b1 b2 b3 b4 b5 b6 b8
  refine sM_4_0 ⟨kk, ?_⟩
  rw [clp (by omega)]
  have start : ∀ x : Int32, x = nI n → RM (d - 1) 4 (fun r h' => r = none ∧ (∀ c j, ¬ mW k c j → h' c j = h c j) ∧ h' 1 k = x1 ∧ h' 2 k = x2 ∧ h' 3 k = x3 ∧ h' 4 k = x4 ∧ h' 5 k = x5 ∧ h' 6 k = nI n ∧ (∀ i, i < n → h' 8 (3 * k + i) = h 21 i ∧ h' 9 (3 * k + i) = (if h 21 i = 3 then -1 else h 22 i)) ∧ h' 7 k = nI (szT t)) 60 [some (.ref 0), some (.int (nI k)), some (.int x1), some (.int x2), some (.int x3), some (.int x4), some (.int x5), some (.int 0)] [] (ai_up (ai_up (ai_up (ai_up (ai_up (ai_up h 1 k x1) 2 k x2) 3 k x3) 4 k x4) 5 k x5) 6 k x) := by
    intro x hx
    have ww : ∀ c, 1 ≤ c → c ≤ 7 → mW k c k := fun c q1 q2 => Or.inl ⟨q1, q2, rfl⟩
    refine L1 n 0 _ (by omega) (by omega) (fr _ 6 k _ (ww 6 (by omega) (by omega)) (fr _ 5 k _ (ww 5 (by omega) (by omega)) (fr _ 4 k _ (ww 4 (by omega) (by omega)) (fr _ 3 k _ (ww 3 (by omega) (by omega)) (fr _ 2 k _ (ww 2 (by omega) (by omega)) (fr h 1 k _ (ww 1 (by omega) (by omega)) (fun _ _ _ => rfl))))))) ?_ ?_ ?_ ?_ ?_ ?_ (fun j hj => by omega)
    · simp [up_e]
    · simp [up_e]
    · simp [up_e]
    · simp [up_e]
    · simp [up_e]
    · simp [up_e, hx]
  rcases hna with ⟨z1, z2⟩ | ⟨z1, z2⟩
  · exact ⟨fun _ => start _ (by rw [z2]; rfl), fun c => absurd c z1⟩
  · exact ⟨fun c => absurd z1 c, fun _ => start _ z2⟩
