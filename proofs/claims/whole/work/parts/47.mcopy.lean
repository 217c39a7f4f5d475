/-- a NODE more -/
theorem mTab_addN {h h' : ai_H} {tn : Nat → Ty} {m nd : Nat} {t : Ty} (hT : mTab h tn m 256 nd) (hm : m < 200) (hfr : ∀ c j, ¬ mW m c j → h' c j = h c j) (hs : h' 7 m = nI (szT t)) (hne : ∀ a, a < m → tn a ≠ t)
    (hrw : ∀ (ts' : Nat → Ty) (m' T' : Nat), (∀ a, mLv m 256 a → ts' a = tn a) → ts' m = t → (∀ a, mLv m 256 a → mLv m' T' a) → mRow h' ts' m' T' nd m) (H : ai_H) (e0 : H 0 0 = nI (m + 1)) (e : ∀ c j, 1 ≤ c → c ≤ 9 → H c j = h' c j) :
    mTab H (upT tn m t) (m + 1) 256 nd := by
  obtain ⟨t0, t1, t2, t3, t4, t5, hrow, hinj⟩ := hT
  have lv : ∀ a, mLv m 256 a → a < m := fun a q => by rcases q with q | q <;> omega
  have lv' : ∀ a, mLv (m + 1) 256 a → a < m ∨ a = m := fun a q => by rcases q with q | q <;> omega
  have hts : ∀ a, mLv m 256 a → upT tn m t a = tn a := fun a q => upT_n t (by have := lv a q; omega)
  refine ⟨e0, by omega, by omega, t3, t4, t5, fun k hk => ?_, fun a b ha hb q => ?_⟩
  · rcases lv' k hk with z | rfl
    · have hk2 : mLv m 256 k := Or.inl z
      refine ⟨?_, ?_⟩
      · exact mRow_ext (hrow k hk2).1 (Nat.le_refl _) (fun c q1 q2 => by rw [e c _ q1 (by omega), hfr c k (by rintro (y | y) <;> omega)]) (fun i hi => ⟨by rw [e 8 _ (by omega) (by omega), hfr 8 _ (by rintro (y | y) <;> omega)], by rw [e 9 _ (by omega) (by omega), hfr 9 _ (by rintro (y | y) <;> omega)]⟩) hts (hts k hk2) (fun a q => Or.inl (by have := lv a q; omega))
      · rw [e 7 _ (by omega) (by omega), hfr 7 k (mW7 (by omega)), (hrow k hk2).2, hts k hk2]
    · refine ⟨?_, by rw [e 7 _ (by omega) (by omega), hs, upT_s]⟩
      have := hrw (upT tn k t) (k + 1) 256 hts (upT_s _ _ _) (fun a q => Or.inl (by have := lv a q; omega))
      exact mRow_ext this (Nat.le_refl _) (fun c q1 q2 => e c _ q1 (by omega)) (fun i hi => ⟨e 8 _ (by omega) (by omega), e 9 _ (by omega) (by omega)⟩) (fun _ _ => rfl) rfl (fun _ q => q)
  · rcases lv' a ha with z | rfl
    · rcases lv' b hb with y | rfl
      · rw [upT_n t (by omega), upT_n t (by omega)] at q
        exact hinj a b (Or.inl z) (Or.inl y) q
      · rw [upT_s, upT_n t (by omega)] at q
        exact absurd q (hne a z)
    · rcases lv' b hb with y | rfl
      · rw [upT_s, upT_n t (by omega)] at q
        exact absurd q.symm (hne b y)
      · rfl
/-- rows of work are being copied: tn, n the NODES by now; hB the rows as they were -/
def cpI (hB : ai_H) (ts : Nat → Ty) (m T nd x : Nat) (H : ai_H) (tn : Nat → Ty) (n : Nat) : Prop :=
  mTab H tn n 256 nd ∧ m ≤ n ∧ (∀ j, j < m → tn j = ts j) ∧ (∀ k, 256 ≤ k → k < T → (∀ c, 1 ≤ c → c ≤ 7 → H c k = hB c k) ∧ ∀ i, i < 3 → H 8 (3 * k + i) = hB 8 (3 * k + i) ∧ H 9 (3 * k + i) = hB 9 (3 * k + i)) ∧
  (∀ k, 256 ≤ k → k ≤ x → (H 11 k = -1 ∧ ∀ j, j < n → tn j ≠ ts k) ∨ ∃ j, H 11 k = nI j ∧ j < n ∧ tn j = ts k)
theorem cM_real {d : Nat} (hd : 1 ≤ d) {hB H : ai_H} {ts tn : Nat → Ty} {m T nd x n r : Nat} (hc : cpI hB ts m T nd x H tn n) (hm : m ≤ 200) (hr : mLv m T r) (hrx : r ≤ x) (hr9 : r < 6256) (hmp : 256 ≤ r → ¬ H 11 r = -1) : ∃ j, CM d 30 [.ref 0, .int (nI r)] H (some (.int (nI j))) H ∧ j < n ∧ tn j = ts r := by
  obtain ⟨c1, c2, c3, c4, c5⟩ := hc
  rcases hr with q | q
  · refine ⟨r, iMe hd rfl (sM_30_0 ⟨fun _ => ⟨rfl, rfl⟩, fun c => absurd ?_ c⟩), by omega, c3 r q⟩
    rw [show (256 : Int32) = nI 256 from rfl, ltN (by omega) (by omega)]; omega
  · rcases c5 r q.1 hrx with ⟨z, -⟩ | ⟨j, z1, z2, z3⟩
    · exact absurd z (hmp q.1)
    · refine ⟨j, iMe hd rfl (sM_30_0 ⟨fun c => ?_, fun _ => ⟨inN hr9 (by decide), by rw [clp (by omega), z1], rfl⟩⟩), z2, z3⟩
      rw [show (256 : Int32) = nI 256 from rfl, ltN (by omega) (by omega)] at c; omega
/-- what copying may change -/
def fC (c : Nat) : Prop := (1 ≤ c ∧ c ≤ 9) ∨ c = 11 ∨ c = 21 ∨ c = 22
def fC0 (j : Nat) : Prop := j = 0 ∨ j = 24
theorem cpI_up {hB H : ai_H} {ts tn : Nat → Ty} {m T nd x n c i : Nat} {v : Int32} (hc : cpI hB ts m T nd x H tn n) (h1 : (c = 0 ∧ i ≠ 0) ∨ 12 ≤ c) : cpI hB ts m T nd x (ai_up H c i v) tn n := by
  obtain ⟨c1, c2, c3, c4, c5⟩ := hc
  have e : ∀ c' j, 1 ≤ c' → c' ≤ 11 → ai_up H c i v c' j = H c' j := fun c' j q1 q2 => by rw [up_e, if_neg (by omega)]
  have e0 : ai_up H c i v 0 0 = H 0 0 := by rw [up_e, if_neg (by omega)]
  refine ⟨?_, c2, c3, fun k k1 k2 => ⟨fun c' q1 q2 => by rw [e c' k q1 (by omega)]; exact (c4 k k1 k2).1 c' q1 q2, fun i' hi => by rw [e 8 _ (by omega) (by omega), e 9 _ (by omega) (by omega)]; exact (c4 k k1 k2).2 i' hi⟩, fun k k1 k2 => by rw [e 11 k (by omega) (by omega)]; exact c5 k k1 k2⟩
  obtain ⟨t0, t1, t2, t3, t4, t5, hrow, hinj⟩ := c1
  exact ⟨by rw [e0, t0], t1, t2, t3, t4, t5, fun k hk => ⟨mRow_ext (hrow k hk).1 (Nat.le_refl _) (fun c q1 q => e c k q1 (by omega)) (fun i _ => ⟨e 8 _ (by omega) (by omega), e 9 _ (by omega) (by omega)⟩) (fun _ _ => rfl) rfl (fun _ q => q), by rw [e 7 k (by omega) (by omega)]; exact (hrow k hk).2⟩, hinj⟩
set_option maxHeartbeats 1000000 in
theorem cM_copy {d : Nat} (hd : 2 ≤ d) {hB H : ai_H} {ts tn : Nat → Ty} {m T nd x n k : Nat} (hT : mTab hB ts m T nd) (hc : cpI hB ts m T nd x H tn n) (hk : 256 ≤ k) (hkx : k ≤ x) (hxT : x < T) (hf : foT (ts k) = 4 ∨ foT (ts k) = 5) (h11 : H 11 k = -1) (hn : n < 200) (hpr : ∀ p, p < 6256 → mPr hB k p → 256 ≤ p → ¬ H 11 p = -1) :
    ∃ h', CM d 31 [.ref 0, .int (nI k)] H none h' ∧ cpI hB ts m T nd x h' (upT tn n (ts k)) (n + 1) ∧ mFr fC fC0 H h' := by
  have hc0 := hc
  obtain ⟨c1, c2, c3, c4, c5⟩ := hc
  have hlv : mLv m T k := Or.inr ⟨hk, by omega⟩
  obtain ⟨t0, t1, t2, t3, t4, t5, hrow, hinj⟩ := id hT
  have hkl := mLv_lt t2 t4 hlv
  obtain ⟨w47, w89⟩ := c4 k hk (by omega)
  have hnew : ∀ j, j < n → tn j ≠ ts k := by
    rcases c5 k hk hkx with ⟨-, z⟩ | ⟨j, z1, z2, -⟩
    · exact z
    · rw [h11] at z1; exact absurd z1 (n1N' (by omega))
  suffices hss : ∃ r h', CM d 31 [.ref 0, .int (nI k)] H r h' ∧ (r = none ∧ cpI hB ts m T nd x h' (upT tn n (ts k)) (n + 1) ∧ mFr fC fC0 H h') by
    obtain ⟨r, h', q, rfl, q2⟩ := hss
    exact ⟨h', q, q2⟩
  refine iM (by omega) rfl ?_
  -- the last step: write(), map, many
  have last : ∀ (H1 : ai_H) (x1 x2 x3 x4 x5 : Int32), cpI hB ts m T nd x H1 tn n → mFr fC fC0 H H1 → mTg H1 tn n 256 nd x1 x2 x3 x4 x5 (ts k) → ∃ h1, CM (d - 1) 4 [.ref 0, .int (nI n), .int x1, .int x2, .int x3, .int x4, .int x5] H1 none h1 ∧ ((none : Option Value) = none ∧ cpI hB ts m T nd x (ai_up (ai_up h1 11 k (h1 0 0)) 0 0 (h1 0 0 + 1)) (upT tn n (ts k)) (n + 1) ∧ mFr fC fC0 H (ai_up (ai_up h1 11 k (h1 0 0)) 0 0 (h1 0 0 + 1))) := by
    intro H1 x1 x2 x3 x4 x5 hc1 hfr hg
    obtain ⟨b1, b2, b3, b4, b5⟩ := hc1
    obtain ⟨h1, y1, y2, y3, y4⟩ := cM_write (d := d - 1) (by omega) b1 (k := n) (by omega) (fun j q => by rcases q with q | q <;> omega) (by have := b1.2.1; omega) hg
    have e00 : h1 0 0 = nI n := by rw [y2 0 0 (by rintro (z | z) <;> omega), b1.1]
    have eC : ∀ c j, 1 ≤ c → c ≤ 10 → ai_up (ai_up h1 11 k (nI n)) 0 0 (nI (n + 1)) c j = h1 c j := fun c j q1 q2 => by rw [up_k _ _ (by omega), up_k _ _ (by omega)]
    refine ⟨h1, y1, rfl, ?_, ?_⟩
    · rw [e00, nI_1]
      refine ⟨mTab_addN b1 hn y2 y3 hnew y4 _ (up_s _ _ _ _) (fun c j q1 q2 => eC c j q1 (by omega)), by omega, fun j hj => by rw [upT_n _ (by omega)]; exact b3 j hj, fun q q1 q2 => ?_, fun q q1 q2 => ?_⟩
      · refine ⟨fun c q3 q4 => ?_, fun i hi => ⟨?_, ?_⟩⟩
        · rw [eC c q q3 (by omega), y2 c q (by rintro (z | z) <;> omega)]; exact (b4 q q1 q2).1 c q3 q4
        · rw [eC 8 _ (by omega) (by omega), y2 8 _ (by rintro (z | z) <;> omega)]; exact ((b4 q q1 q2).2 i hi).1
        · rw [eC 9 _ (by omega) (by omega), y2 9 _ (by rintro (z | z) <;> omega)]; exact ((b4 q q1 q2).2 i hi).2
      · by_cases hqk : q = k
        · subst hqk
          exact Or.inr ⟨n, by rw [up_k _ _ (by decide), up_s], by omega, upT_s _ _ _⟩
        · have e11 : ai_up (ai_up h1 11 k (nI n)) 0 0 (nI (n + 1)) 11 q = H1 11 q := by
            rw [up_k _ _ (by decide), up_i _ hqk, y2 11 q (by rintro (z | z) <;> omega)]
          rw [e11]
          rcases b5 q q1 q2 with ⟨z1, z2⟩ | ⟨j, z1, z2, z3⟩
          · refine Or.inl ⟨z1, fun j hj => ?_⟩
            by_cases hjn : j = n
            · rw [hjn, upT_s]
              exact fun e => hqk (hinj q k (Or.inr ⟨q1, by omega⟩) hlv e.symm)
            · rw [upT_n _ hjn]; exact z2 j (by omega)
          · exact Or.inr ⟨j, z1, by omega, by rw [upT_n _ (by omega)]; exact z3⟩
    · rw [e00]
      refine ⟨fun c j q1 q2 => ?_, fun j hj => ?_⟩
      · rw [up_k _ _ q1, up_k _ _ (by unfold fC at q2; omega), y2 c j (by unfold fC at q2; rintro (z | z) <;> omega)]
        exact hfr.1 c j q1 q2
      · rw [up_i _ (by unfold fC0 at hj; omega), up_k _ _ (by decide), y2 0 j (by rintro (z | z) <;> omega)]
        exact hfr.2 j hj
  rcases (hrow k hlv).1 with ⟨w1, w2, w3⟩ | ⟨w0, e, p, w1, w2, w3, w4, w5, w6⟩ | ⟨w0, e2, w1, w2, w3, w4, w5⟩ | ⟨w0, d2, n2, g2, o2, w1, w2, w3, w4, w5, w6, w7, w8, w9⟩
  · omega
  · rw [w1] at hf; simp [tV, foT] at hf
  · -- an ARRAY
    have hel := mLv_lt t2 t4 w5
    have hfr1 : mFr fC fC0 H (ai_up H 0 24 0) := ⟨fun c j q1 q2 => by rw [up_k _ _ q1], fun j hj => by rw [up_i _ (by unfold fC0 at hj; omega)]⟩
    have hc1 := cpI_up (c := 0) (i := 24) (v := 0) hc0 (Or.inl ⟨rfl, by decide⟩)
    obtain ⟨j, r1, r2, r3⟩ := cM_real (d := d - 1) (by omega) hc1 t2 w5 (by omega) hel (fun q => by
      rw [up_k _ _ (by decide)]; exact hpr e2 hel (Or.inl ⟨w2, w3⟩) q)
    have f1 : H 1 k = 4 := by rw [w47 1 (by omega) (by omega), w2]
    refine sM_31_0 ⟨inN hkl (by decide), fun _ => ?_, fun c => ?_⟩
    · refine sM_31_26 ⟨fun _ => ?_, fun c => absurd ?_ c⟩
      · have g1 : ai_up H 0 24 0 1 k = 4 := by rw [up_k _ _ (by decide), f1]
        have g4 : ai_up H 0 24 0 4 k = nI e2 := by rw [up_k _ _ (by decide), w47 4 (by omega) (by omega), w3]
        rw [clp (by omega), g1, g4]
        refine ⟨inN hkl (by decide), fun c => absurd rfl c, fun _ => ⟨_, _, r1, fun _ => ?_, fun c => ?_⟩⟩
        · have e0 : ai_up H 0 24 0 0 0 = nI n := by rw [up_i _ (by decide), c1.1]
          rw [e0]
          exact last _ _ _ _ _ _ hc1 hfr1 (Or.inr (Or.inl ⟨rfl, j, rfl, Or.inl r2, by rw [w1, r3]⟩))
        · rw [g1] at c; exact absurd c (by decide)
      · rw [up_s]; exact Int32.le_refl _
    · rw [clp (by omega), f1] at c; exact absurd c (by decide)
  · -- a CLASS TYPE
    have f1 : H 1 k = 5 := by rw [w47 1 (by omega) (by omega), w2]
    have f6 : H 6 k = nI n2 := by rw [w47 6 (by omega) (by omega), w5]
    have L : ∀ (f i : Nat) (H1 : ai_H), n2 - i ≤ f → i ≤ n2 → cpI hB ts m T nd x H1 tn n → mFr fC fC0 H H1 → (∀ c j, 1 ≤ c → c ≤ 11 → H1 c j = H c j) → H1 0 24 = nI n2 → (∀ l, l < i → mNs H1 tn n 256 l (g2 l)) → RM (d - 1) 31 (fun r h' => r = none ∧ cpI hB ts m T nd x h' (upT tn n (ts k)) (n + 1) ∧ mFr fC fC0 H h') 26 [some (.ref 0), some (.int (nI k)), some (.int (nI i))] [] H1 := by
      intro f
      induction f with
      | zero =>
        intro i H1 a1 a2 a3 a4 a5 a6 a7
        have hi : i = n2 := by omega
        subst hi
        refine sM_31_26 ⟨fun _ => ?_, fun c => absurd ?_ c⟩
        · have e0 : H1 0 0 = nI n := a3.1.1
          rw [clp (by omega), a5 1 _ (by omega) (by omega), a5 2 _ (by omega) (by omega), a5 5 _ (by omega) (by omega), f1, w47 2 (by omega) (by omega), w47 5 (by omega) (by omega), w3, e0]
          have mk : ∀ (x5 : Int32) (ot : Ty), ((x5 = -1 ∧ ot = tN) ∨ ∃ o, x5 = nI o ∧ mLv n 256 o ∧ 10 ≤ o ∧ ot = tn o ∧ foT (tn o) = 5) → o2 = ot → mTg H1 tn n 256 nd 5 (nI d2) (H1 3 k) (-1) x5 (ts k) := by
            intro x5 ot hx5 hot
            exact Or.inr (Or.inr ⟨rfl, d2, i, g2, ot, rfl, w4, ⟨a6, w6, a7, w9⟩, hx5, by rw [w1, hot]⟩)
          refine ⟨inN hkl (by decide), fun _ => ⟨fun c => absurd rfl c, fun _ => ?_⟩, fun c => absurd c (by decide)⟩
          rcases w7 with ⟨u1, u2⟩ | ⟨o, u1, u2, u3, u4, u5, u6⟩
          · rw [u1]
            exact ⟨fun _ => last H1 _ _ _ _ _ a3 a4 (mk (-1) tN (Or.inl ⟨rfl, rfl⟩) u2), fun c => absurd m1lt c⟩
          · have hol := mLv_lt t2 t4 u3
            rw [u1]
            obtain ⟨j, r1, r2, r3⟩ := cM_real (d := d - 1) (by omega) a3 t2 u3 (by omega) hol (fun q => by
              rw [a5 11 _ (by omega) (by omega)]; exact hpr o hol (Or.inr ⟨w2, Or.inl u1⟩) q)
            refine ⟨fun c => absurd c (gt0N (by omega)), fun _ => ⟨_, H1, r1, last H1 _ _ _ _ _ a3 a4 (mk (nI j) (tn j) (Or.inr ⟨j, rfl, Or.inl r2, ?_, rfl, by rw [r3]; exact u6⟩) (by rw [r3, u5]))⟩⟩
            exact mLv_fo a3.1 (Or.inl r2) (by rw [r3, u6]; omega)
        · rw [a6]; exact Int32.le_refl _
      | succ f ih =>
        intro i H1 a1 a2 a3 a4 a5 a6 a7
        rcases Nat.lt_or_ge i n2 with hin | hin
        · have e8 : H1 8 (3 * k + i) = hB 8 (3 * k + i) := by rw [a5 8 _ (by omega) (by omega)]; exact (w89 i (by omega)).1
          have e9 : H1 9 (3 * k + i) = hB 9 (3 * k + i) := by rw [a5 9 _ (by omega) (by omega)]; exact (w89 i (by omega)).2
          refine sM_31_26 ⟨fun c => ?_, fun _ => ?_⟩
          · rw [a6, leN (by omega) (by omega)] at c; omega
          · rw [mul3, clp (by omega), clp (by omega), e8, e9, nI_1, up_s]
            refine ⟨inN (by omega) (by decide), inN (by omega) (by decide), ?_⟩
            -- the two writes
            have step : ∀ (a b : Int32), mNs (ai_up (ai_up H1 21 i a) 22 i b) tn n 256 i (g2 i) → RM (d - 1) 31 (fun r h' => r = none ∧ cpI hB ts m T nd x h' (upT tn n (ts k)) (n + 1) ∧ mFr fC fC0 H h') 26 [some (.ref 0), some (.int (nI k)), some (.int (nI (i + 1)))] [] (ai_up (ai_up H1 21 i a) 22 i b) := by
              intro a b hns
              refine ih (i + 1) _ (by omega) (by omega) (cpI_up (cpI_up a3 (Or.inr (by omega))) (Or.inr (by omega))) ⟨fun c j q1 q2 => ?_, fun j hj => ?_⟩ (fun c j q1 q2 => ?_) ?_ (fun l hl => ?_)
              · rw [up_k _ _ (by unfold fC at q2; omega), up_k _ _ (by unfold fC at q2; omega)]; exact a4.1 c j q1 q2
              · rw [up_k _ _ (by decide), up_k _ _ (by decide)]; exact a4.2 j hj
              · rw [up_k _ _ (by omega), up_k _ _ (by omega)]; exact a5 c j q1 q2
              · rw [up_k _ _ (by decide), up_k _ _ (by decide)]; exact a6
              · rcases Nat.lt_or_ge l i with y | y
                · have p1 : ai_up (ai_up H1 21 i a) 22 i b 21 l = H1 21 l := by rw [up_k _ _ (by decide), up_i _ (by omega)]
                  have p2 : ai_up (ai_up H1 21 i a) 22 i b 22 l = H1 22 l := by rw [up_i _ (by omega), up_k _ _ (by decide)]
                  rcases a7 l y with ⟨z1, z2⟩ | ⟨w, xx, z1, z2, z3, z4⟩
                  · exact Or.inl ⟨by rw [p1, z1], z2⟩
                  · exact Or.inr ⟨w, xx, z1, by rw [p1, z2], by rw [p2, z3], z4⟩
                · have : l = i := by omega
                  rw [this]; exact hns
            have p21 : ∀ a b, ai_up (ai_up H1 21 i a) 22 i b 21 i = a := fun a b => by rw [up_k _ _ (by decide), up_s]
            have p22 : ∀ a b, ai_up (ai_up H1 21 i a) 22 i b 22 i = b := fun a b => up_s _ _ _ _
            rcases w8 i hin with ⟨u1, u2, u3⟩ | ⟨w, a, u1, u2, u3, u4, u5, u6, u7⟩
            · refine ⟨fun c => absurd u1 c, fun _ => step _ _ (Or.inl ⟨by rw [p21, u1], u3⟩)⟩
            · have hal := mLv_lt t2 t4 u5
              have n3 : ¬ hB 8 (3 * k + i) = 3 := by rw [u2, show (3 : Int32) = nI 3 from rfl, neN (by omega) (by omega)]; omega
              rw [u3]
              obtain ⟨j, r1, r2, r3⟩ := cM_real (d := d - 1) (r := a) (H := ai_up H1 21 i (hB 8 (3 * k + i))) (by omega) (cpI_up a3 (Or.inr (by omega))) t2 u5 (by omega) hal (fun q => by
                rw [up_k _ _ (by decide), a5 11 _ (by omega) (by omega)]
                exact hpr a hal (Or.inr ⟨w2, Or.inr ⟨n2, i, w5, w6, hin, n3, u3⟩⟩) q)
              refine ⟨fun _ => ⟨_, _, r1, step _ _ (Or.inr ⟨w, j, u1, by rw [p21, u2], by rw [p22], Or.inl r2, ?_, by rw [u7, r3]⟩)⟩, fun c => absurd c n3⟩
              have := (mRow_fo hT u5).2.2.1
              have hfa : 3 ≤ foT (ts a) := by
                rcases Nat.lt_or_ge (foT (ts a)) 3 with z | z
                · have := this.mpr (by omega); omega
                · exact z
              exact mLv_fo a3.1 (Or.inl r2) (by rw [r3]; exact hfa)
        · exact ih i H1 (by omega) a2 a3 a4 a5 a6 a7
    refine sM_31_0 ⟨inN hkl (by decide), fun c => ?_, fun _ => ?_⟩
    · rw [clp (by omega), f1] at c; exact absurd rfl c
    · rw [clp (by omega), f6]
      exact L n2 0 _ (by omega) (by omega) (cpI_up hc0 (Or.inl ⟨rfl, by decide⟩)) ⟨fun c j q1 q2 => by rw [up_k _ _ q1], fun j hj => by rw [up_i _ (by unfold fC0 at hj; omega)]⟩ (fun c j q1 q2 => by rw [up_k _ _ (by omega)]) (up_s _ _ _ _) (fun l hl => by omega)
