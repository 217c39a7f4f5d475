/-- a TYPE stands in another one -/
def subT : Ty → Ty → Prop
  | .length t, u => u = .length t ∨ subT t u
  | .add d (.mul o (.div a (.rem b c))), u => u = .add d (.mul o (.div a (.rem b c))) ∨ subT o u ∨ subT a u ∨ subT b u ∨ subT c u
  | .elem w t, u => u = .elem w t ∨ subT t u
  | t, u => u = t
theorem subT_rf : ∀ t : Ty, subT t t := by
  intro t
  unfold subT
  split <;> first | exact Or.inl rfl | rfl
theorem subT_A {t u : Ty} : subT (tA t) u ↔ u = tA t ∨ subT t u := by unfold tA; simp only [subT]
theorem subT_C {d : Nat} {o a b c u : Ty} : subT (tC d o a b c) u ↔ u = tC d o a b c ∨ subT o u ∨ subT a u ∨ subT b u ∨ subT c u := by unfold tC; simp only [subT]
theorem subT_G {w : Nat} {t u : Ty} : subT (tG w t) u ↔ u = tG w t ∨ subT t u := by unfold tG; simp only [subT]
theorem cM_lower {d : Nat} (hd : 1 ≤ d) (h : ai_H) (x : Int32) : CM d 8 [.ref 0, .int x] h (some (.int (if x = 256 then h 0 0 - 1 else x - 1))) h :=
  iMe hd rfl (sM_8_0 ⟨fun c => ⟨by rw [if_neg c], rfl⟩, fun c => ⟨by rw [if_pos c], rfl⟩⟩)
theorem cM_higher {d : Nat} (hd : 1 ≤ d) (h : ai_H) (x : Int32) : CM d 9 [.ref 0, .int x] h (some (.int (if x = h 0 0 - 1 then 256 else x + 1))) h :=
  iMe hd rfl (sM_9_0 ⟨fun c => ⟨by rw [if_neg c], rfl⟩, fun c => ⟨by rw [if_pos c], rfl⟩⟩)
/-- the row ahead of a row -/
def mLow (m k : Nat) : Nat := if k = 256 then m - 1 else k - 1
theorem cM_lowN {d : Nat} (hd : 1 ≤ d) {h : ai_H} {ts : Nat → Ty} {m T nd k : Nat} (hT : mTab h ts m T nd) (hk : mLv m T k) (h10 : 10 ≤ k) : CM d 8 [.ref 0, .int (nI k)] h (some (.int (nI (mLow m k)))) h := by
  have := cM_lower hd h (nI k)
  obtain ⟨t0, t1, t2, t3, t4, t5, hrow, hinj⟩ := hT
  have hl := mLv_lt t2 t4 hk
  rw [show (256 : Int32) = nI 256 from rfl] at this
  unfold mLow
  by_cases e : k = 256
  · rw [if_pos ((neN (by omega) (by omega)).mpr e), t0, show (1 : Int32) = nI 1 from rfl, pk_sub (by omega)] at this
    rw [if_pos e]; exact this
  · rw [if_neg (fun q => e ((neN (by omega) (by omega)).mp q)), show (1 : Int32) = nI 1 from rfl, pk_sub (by omega)] at this
    rw [if_neg e]; exact this
theorem mLow_lv {m T k : Nat} (hm : 11 ≤ m) (hm2 : m ≤ 200) (hk : mLv m T k) (h10 : 10 ≤ k) : mLv m T (mLow m k) ∧ mLow m k < k ∧ ∀ j, mLv m T j → mLow m k < j → j < k → False := by
  unfold mLow
  split
  · refine ⟨Or.inl (by omega), by omega, fun j hj a b => ?_⟩
    rcases hj with q | q <;> omega
  · refine ⟨?_, by omega, fun j _ a b => by omega⟩
    rcases hk with q | q
    · exact Or.inl (by omega)
    · exact Or.inr ⟨by omega, by omega⟩
/-- p is a part of row k -/
def mPr (h : ai_H) (k p : Nat) : Prop := (h 1 k = 4 ∧ h 4 k = nI p) ∨ (h 1 k = 5 ∧ (h 5 k = nI p ∨ ∃ n i, h 6 k = nI n ∧ n ≤ 3 ∧ i < n ∧ ¬ h 8 (3 * k + i) = 3 ∧ h 9 (3 * k + i) = nI p))
/-- the marks lie under x, and are closed above k -/
def mMk (h : ai_H) (ts : Nat → Ty) (m T x k : Nat) (H : ai_H) : Prop := (∀ c j, c ≠ 10 → H c j = h c j) ∧ (∀ j, mLv m T j → H 10 j = 0 ∨ H 10 j = 1) ∧ (∀ j, mLv m T j → H 10 j = 1 → subT (ts x) (ts j)) ∧ H 10 x = 1 ∧ ∀ j, mLv m T j → k < j → H 10 j = 1 → ∀ p, p < 6256 → mPr h j p → H 10 p = 1
theorem mMk_up {h : ai_H} {ts : Nat → Ty} {m T x k q : Nat} {H : ai_H} (hM : mMk h ts m T x k H) (hq : q ≤ k) (hs : subT (ts x) (ts q)) : mMk h ts m T x k (ai_up H 10 q 1) := by
  obtain ⟨a1, a2, a3, a4, a5⟩ := hM
  have key : ∀ j, ai_up H 10 q 1 10 j = if j = q then 1 else H 10 j := fun j => by rw [up_e]; simp
  refine ⟨fun c j hc => by rw [up_k _ _ hc, a1 c j hc], fun j hj => ?_, fun j hj e => ?_, ?_, fun j hj hk e p hp9 hp => ?_⟩
  · rw [key]; split
    · exact Or.inr rfl
    · exact a2 j hj
  · rw [key] at e
    by_cases ej : j = q
    · rw [ej]; exact hs
    · rw [if_neg ej] at e; exact a3 j hj e
  · rw [key]; split
    · rfl
    · exact a4
  · rw [key] at e ⊢
    split
    · rfl
    · rw [if_neg (by omega)] at e
      exact a5 j hj hk e p hp9 hp
theorem mMk_lo {h : ai_H} {ts : Nat → Ty} {m T x k k' : Nat} {H : ai_H} (hM : mMk h ts m T x k H) (hgap : ∀ j, mLv m T j → k' < j → j < k → False) (hk : H 10 k = 1 → ∀ p, p < 6256 → mPr h k p → H 10 p = 1) : mMk h ts m T x k' H := by
  obtain ⟨a1, a2, a3, a4, a5⟩ := hM
  refine ⟨a1, a2, a3, a4, fun j hj hkj e p hp9 hp => ?_⟩
  rcases Nat.lt_trichotomy j k with z | z | z
  · exact (hgap j hj hkj z).elim
  · subst z; exact hk e p hp9 hp
  · exact a5 j hj z e p hp9 hp
theorem subT_tr {t u v : Ty} (h1 : subT t u) (h2 : subT u v) : subT t v := by
  induction t, u using subT.induct with
  | case1 u t ih =>
    simp only [subT] at h1 ⊢
    rcases h1 with rfl | h1
    · simpa only [subT] using h2
    · exact Or.inr (ih h1 h2)
  | case2 u d o a b c ih1 ih2 ih3 ih4 =>
    simp only [subT] at h1 ⊢
    rcases h1 with rfl | h1 | h1 | h1 | h1
    · simpa only [subT] using h2
    · exact Or.inr (Or.inl (ih1 h1 h2))
    · exact Or.inr (Or.inr (Or.inl (ih2 h1 h2)))
    · exact Or.inr (Or.inr (Or.inr (Or.inl (ih3 h1 h2))))
    · exact Or.inr (Or.inr (Or.inr (Or.inr (ih4 h1 h2))))
  | case3 u w t ih =>
    simp only [subT] at h1 ⊢
    rcases h1 with rfl | h1
    · simpa only [subT] using h2
    · exact Or.inr (ih h1 h2)
  | case4 t u n1 n2 n3 =>
    unfold subT at h1
    split at h1
    · exact absurd rfl (n1 _)
    · exact absurd rfl (n2 _ _ _ _ _)
    · exact absurd rfl (n3 _ _)
    · rw [h1] at h2; exact h2
theorem mTab_eq {h H : ai_H} {ts : Nat → Ty} {m T nd : Nat} (e : ∀ c j, c ≤ 9 → H c j = h c j) (hT : mTab h ts m T nd) : mTab H ts m T nd := by
  obtain ⟨t0, t1, t2, t3, t4, t5, hrow, hinj⟩ := hT
  exact ⟨by rw [e 0 0 (by omega), t0], t1, t2, t3, t4, t5, fun k hk => ⟨mRow_ext (hrow k hk).1 (Nat.le_refl _) (fun c _ q => e c k (by omega)) (fun i _ => ⟨e 8 _ (by omega), e 9 _ (by omega)⟩) (fun _ _ => rfl) rfl (fun _ q => q), by rw [e 7 k (by omega)]; exact (hrow k hk).2⟩, hinj⟩
theorem mPr_ok {h : ai_H} {ts : Nat → Ty} {m T nd k p : Nat} (hT : mTab h ts m T nd) (hk : mLv m T k) (h10 : 10 ≤ k) (hp9 : p < 6256) (hp : mPr h k p) : mLv m T p ∧ p < k ∧ subT (ts k) (ts p) := by
  obtain ⟨t0, t1, t2, t3, t4, t5, hrow, hinj⟩ := hT
  rcases (hrow k hk).1 with ⟨w1, w2, w3⟩ | ⟨w0, d2, p2, w1, w2, w3, w4, w5, w6⟩ | ⟨w0, e2, w1, w2, w3, w4, w5⟩ | ⟨w0, d2, n2, g2, o2, w1, w2, w3, w4, w5, w6, w7, w8, w9⟩
  · omega
  · rcases hp with ⟨q, -⟩ | ⟨q, -⟩ <;> (rw [w2] at q; exact absurd q (by decide))
  · rcases hp with ⟨-, q⟩ | ⟨q, -⟩
    · have := mLv_lt t2 t4 w5
      rw [w3, neN (by omega) (by omega)] at q
      subst q
      exact ⟨w5, w4, by rw [w1, subT_A]; exact Or.inr (subT_rf _)⟩
    · rw [w2] at q; exact absurd q (by decide)
  · rcases hp with ⟨q, -⟩ | ⟨-, q | ⟨n, i, q1, q2, q3, q4, q5⟩⟩
    · rw [w2] at q; exact absurd q (by decide)
    · rcases w7 with ⟨u1, u2⟩ | ⟨o, u1, u2, u3, u4, u5, u6⟩
      · rw [u1] at q; exact absurd q (n1N' (by omega))
      · have := mLv_lt t2 t4 u3
        rw [u1, neN (by omega) (by omega)] at q
        subst q
        exact ⟨u3, u2, by rw [w1, subT_C, u5]; exact Or.inr (Or.inl (subT_rf _))⟩
    · rw [w5, neN (by omega) (by omega)] at q1
      subst q1
      rcases w8 i q3 with ⟨u1, u2, u3⟩ | ⟨w, a, u1, u2, u3, u4, u5, u6, u7⟩
      · exact absurd u1 q4
      · have := mLv_lt t2 t4 u5
        rw [u3, neN (by omega) (by omega)] at q5
        subst q5
        refine ⟨u5, u4, ?_⟩
        rw [w1, subT_C]
        have hg : subT (g2 i) (ts a) := by rw [u7, subT_G]; exact Or.inr (subT_rf _)
        rcases (show i = 0 ∨ i = 1 ∨ i = 2 by omega) with rfl | rfl | rfl
        · exact Or.inr (Or.inr (Or.inl hg))
        · exact Or.inr (Or.inr (Or.inr (Or.inl hg)))
        · exact Or.inr (Or.inr (Or.inr (Or.inr hg)))
set_option maxHeartbeats 1000000 in
theorem cM_reach {d : Nat} (hd : 2 ≤ d) {h : ai_H} {ts : Nat → Ty} {m T nd x : Nat} (hT : mTab h ts m T nd) (hT1 : h 0 1 = nI T) (hx : mLv m T x) :
    ∃ h', CM d 10 [.ref 0, .int (nI x)] h none h' ∧ (∀ c j, c ≠ 10 → h' c j = h c j) ∧ ∀ j, mLv m T j → ((h' 10 j = 1 ∧ subT (ts x) (ts j)) ∨ (h' 10 j = 0 ∧ ¬ subT (ts x) (ts j))) := by
  have hT0 := hT
  obtain ⟨t0, t1, t2, t3, t4, t5, hrow, hinj⟩ := hT
  have hxl := mLv_lt t2 t4 hx
  suffices hs : ∃ r h', CM d 10 [.ref 0, .int (nI x)] h r h' ∧ (r = none ∧ ∃ k, k < 10 ∧ mMk h ts m T x k h') by
    obtain ⟨r, h', hc, rfl, k, hk, a1, a2, a3, a4, a5⟩ := hs
    refine ⟨h', hc, a1, fun j hj => ?_⟩
    -- closed under parts: every row under a marked one is marked
    have cl : ∀ (n r u : Nat), r ≤ n → mLv m T r → mLv m T u → h' 10 r = 1 → subT (ts r) (ts u) → h' 10 u = 1 := by
      intro n
      induction n with
      | zero =>
        intro r u h1 h2 h3 h4 h5
        rcases (hrow r h2).1 with ⟨w1, w2, w3⟩ | ⟨w0, -⟩ | ⟨w0, -⟩ | ⟨w0, -⟩
        · rw [w2] at h5
          simp only [tP, subT] at h5
          rw [show (Term.arg r : Ty) = tP r from rfl, ← w2] at h5
          rw [hinj u r h3 h2 h5]; exact h4
        · omega
        · omega
        · omega
      | succ n ih =>
        intro r u h1 h2 h3 h4 h5
        have hl := mLv_lt t2 t4 h2
        have self : ts u = ts r → h' 10 u = 1 := fun e => by rw [hinj u r h3 h2 e]; exact h4
        rcases (hrow r h2).1 with ⟨w1, w2, w3⟩ | ⟨w0, d2, p2, w1, w2, w3, w4, w5, w6⟩ | ⟨w0, e2, w1, w2, w3, w4, w5⟩ | ⟨w0, d2, n2, g2, o2, w1, w2, w3, w4, w5, w6, w7, w8, w9⟩
        · rw [w2] at h5
          simp only [tP, subT] at h5
          exact self (by rw [w2]; exact h5)
        · rw [w1] at h5
          simp only [tV, subT] at h5
          exact self (by rw [w1]; exact h5)
        · rw [w1, subT_A] at h5
          rcases h5 with h5 | h5
          · exact self (by rw [w1]; exact h5)
          · have := mLv_lt t2 t4 w5
            exact ih e2 u (by omega) w5 h3 (a5 r h2 (by omega) h4 e2 this (Or.inl ⟨w2, w3⟩)) h5
        · rw [w1, subT_C] at h5
          have hg : ∀ i, i < 3 → subT (g2 i) (ts u) → h' 10 u = 1 := by
            intro i hi h5
            rcases Nat.lt_or_ge i n2 with hin | hin
            · rcases w8 i hin with ⟨u1, u2, u3⟩ | ⟨w, a, u1, u2, u3, u4, u5, u6, u7⟩
              · exfalso
                rw [u3] at h5
                simp only [tY, subT] at h5
                rcases (hrow u h3).1 with ⟨w1, w2, w3⟩ | ⟨w0, d2, p2, w1, -⟩ | ⟨w0, e2, w1, -⟩ | ⟨w0, d2, n2, g2, o2, w1, -⟩
                · rw [w2] at h5; cases h5
                · rw [w1] at h5; cases h5
                · rw [w1] at h5; cases h5
                · rw [w1] at h5; cases h5
              · have := mLv_lt t2 t4 u5
                rw [u7, subT_G] at h5
                rcases h5 with h5 | h5
                · exfalso
                  rcases (hrow u h3).1 with ⟨w1, w2, w3⟩ | ⟨w0, d2, p2, w1, -⟩ | ⟨w0, e2, w1, -⟩ | ⟨w0, d2, n2, g2, o2, w1, -⟩
                  · rw [w2] at h5; cases h5
                  · rw [w1] at h5; cases h5
                  · rw [w1] at h5; cases h5
                  · rw [w1] at h5; cases h5
                · refine ih a u (by omega) u5 h3 (a5 r h2 (by omega) h4 a this (Or.inr ⟨w2, Or.inr ⟨n2, i, w5, w6, hin, ?_, u3⟩⟩)) h5
                  rw [u2, show (3 : Int32) = nI 3 from rfl, neN (by omega) (by omega)]; omega
            · exfalso
              rw [w9 i hin] at h5
              simp only [tN, subT] at h5
              rcases (hrow u h3).1 with ⟨w1, w2, w3⟩ | ⟨w0, d2, p2, w1, -⟩ | ⟨w0, e2, w1, -⟩ | ⟨w0, d2, n2, g2, o2, w1, -⟩
              · rw [w2] at h5; cases h5
              · rw [w1] at h5; cases h5
              · rw [w1] at h5; cases h5
              · rw [w1] at h5; cases h5
          rcases h5 with h5 | h5 | h5 | h5 | h5
          · exact self (by rw [w1]; exact h5)
          · rcases w7 with ⟨u1, u2⟩ | ⟨o, u1, u2, u3, u4, u5, u6⟩
            · exfalso
              rw [u2] at h5
              simp only [tN, subT] at h5
              rcases (hrow u h3).1 with ⟨w1, w2, w3⟩ | ⟨w0, d2, p2, w1, -⟩ | ⟨w0, e2, w1, -⟩ | ⟨w0, d2, n2, g2, o2, w1, -⟩
              · rw [w2] at h5; cases h5
              · rw [w1] at h5; cases h5
              · rw [w1] at h5; cases h5
              · rw [w1] at h5; cases h5
            · have := mLv_lt t2 t4 u3
              rw [u5] at h5
              exact ih o u (by omega) u3 h3 (a5 r h2 (by omega) h4 o this (Or.inr ⟨w2, Or.inl u1⟩)) h5
          · exact hg 0 (by omega) h5
          · exact hg 1 (by omega) h5
          · exact hg 2 (by omega) h5
    rcases a2 j hj with z | z
    · exact Or.inr ⟨z, fun q => by rw [cl x x j (Nat.le_refl _) hx hj a4 q] at z; exact absurd z (by decide)⟩
    · exact Or.inl ⟨z, a3 j hj z⟩
  refine iM (by omega) rfl ?_
  -- the marks
  have L3 : ∀ (f k : Nat) (o3 : Option Value) (H : ai_H), k ≤ f → mLv m T k → mMk h ts m T x k H → RM (d - 1) 10 (fun r h' => r = none ∧ ∃ k, k < 10 ∧ mMk h ts m T x k h') 57 [some (.ref 0), some (.int (nI x)), some (.int (nI k)), o3] [] H := by
    intro f
    induction f with
    | zero =>
      intro k o3 H h1 h2 h3
      refine sM_10_57 ⟨fun _ => ⟨rfl, k, by omega, h3⟩, fun c => absurd ?_ c⟩
      have : k = 0 := by omega
      rw [this]; decide
    | succ f ih =>
      intro k o3 H h1 h2 h3
      have hl := mLv_lt t2 t4 h2
      rcases Nat.lt_or_ge k 10 with hk10 | hk10
      · refine sM_10_57 ⟨fun _ => ⟨rfl, k, hk10, h3⟩, fun c => absurd ?_ c⟩
        rw [show (10 : Int32) = nI 10 from rfl, ltN (by omega) (by omega)]; exact hk10
      · have hTH : ∀ H, mMk h ts m T x k H → mTab H ts m T nd := fun H hM => mTab_eq (fun c j q => hM.1 c j (by omega)) hT0
        obtain ⟨v1, v2, v3⟩ := mLow_lv t1 t2 h2 hk10
        have next : ∀ (H : ai_H) (o3 : Option Value), mMk h ts m T x k H → (H 10 k = 1 → ∀ p, p < 6256 → mPr h k p → H 10 p = 1) → (∃ (r1 : Int32) (h1 : ai_H), CM (d - 1) 8 [.ref 0, .int (nI k)] H (some (.int r1)) h1 ∧ RM (d - 1) 10 (fun r h' => r = none ∧ ∃ k, k < 10 ∧ mMk h ts m T x k h') 57 [some (.ref 0), some (.int (nI x)), some (.int r1), o3] [] h1) := fun H o3 hM hp => ⟨_, H, cM_lowN (by omega) (hTH H hM) h2 hk10, ih _ o3 H (by omega) v1 (mMk_lo hM v3 hp)⟩
        have hc10 : ¬ nI k < 10 := by rw [show (10 : Int32) = nI 10 from rfl, ltN (by omega) (by omega)]; omega
        refine sM_10_57 ⟨fun c => absurd c hc10, fun _ => ⟨inN hl (by decide), fun c0 => next H o3 h3 (fun e => ?_), fun c1 => ?_⟩⟩
        · rw [clp (by omega)] at c0
          rw [c0] at e; exact absurd e (by decide)
        · rw [clp (by omega)] at c1
          have hm1 : H 10 k = 1 := (h3.2.1 k h2).resolve_left c1
          have hsk := h3.2.2.1 k h2 hm1
          have eH : ∀ c j, c ≠ 10 → H c j = h c j := h3.1
          rw [clp (by omega), eH 1 k (by decide), eH 5 k (by decide), eH 4 k (by decide)]
          rcases (hrow k h2).1 with ⟨w1, w2, w3⟩ | ⟨w0, d2, p2, w1, w2, w3, w4, w5, w6⟩ | ⟨w0, e2, w1, w2, w3, w4, w5⟩ | ⟨w0, d2, n2, g2, o2, w1, w2, w3, w4, w5, w6, w7, w8, w9⟩
          · omega
          · rw [w2]
            refine ⟨fun _ => ⟨fun _ => ?_, fun c => absurd c (by decide)⟩, fun c => absurd c (by decide)⟩
            refine sM_10_127 ⟨inN hl (by decide), fun _ => next H _ h3 (fun _ p hp9 hp => ?_), fun c => absurd c ?_⟩
            · rcases hp with ⟨q, -⟩ | ⟨q, -⟩ <;> (rw [w2] at q; exact absurd q (by decide))
            · rw [clp (by omega), eH 1 k (by decide), w2]; decide
          · have hle := mLv_lt t2 t4 w5
            rw [w2, w3]
            refine ⟨fun c => absurd rfl c, fun _ => ⟨inN hle (by decide), fun _ => ?_, fun c => absurd c (by decide)⟩⟩
            rw [clp (by omega)]
            have h4 := mMk_up h3 (q := e2) (by omega) (subT_tr hsk (by rw [w1, subT_A]; exact Or.inr (subT_rf _)))
            refine sM_10_127 ⟨inN hl (by decide), fun _ => next _ _ h4 (fun _ p hp9 hp => ?_), fun c => absurd c ?_⟩
            · rcases hp with ⟨-, q⟩ | ⟨q, -⟩
              · rw [w3, neN (by omega) (by omega)] at q
                rw [← q, up_s]
              · rw [w2] at q; exact absurd q (by decide)
            · rw [clp (by omega), h4.1 1 k (by decide), w2]; decide
          · -- a CLASS TYPE: its OUTER TYPE, then its ARGUMENTS
            have L4 : ∀ (f i : Nat) (H : ai_H), n2 - i ≤ f → i ≤ n2 → mMk h ts m T x k H → (∀ o, o < 6256 → h 5 k = nI o → H 10 o = 1) → (∀ j, j < i → ∀ p, p < 6256 → ¬ h 8 (3 * k + j) = 3 → h 9 (3 * k + j) = nI p → H 10 p = 1) → RM (d - 1) 10 (fun r h' => r = none ∧ ∃ k, k < 10 ∧ mMk h ts m T x k h') 127 [some (.ref 0), some (.int (nI x)), some (.int (nI k)), some (.int (nI i))] [] H := by
              intro f
              induction f with
              | zero =>
                intro i H z1 z2 z3 z4 z5
                have hi : i = n2 := by omega
                subst hi
                refine sM_10_127 ⟨inN hl (by decide), fun c => absurd ?_ c, fun _ => ⟨fun _ => next H _ z3 (fun _ p hp9 hp => ?_), fun c => absurd ?_ c⟩⟩
                · rw [clp (by omega), z3.1 1 k (by decide), w2]
                · rcases hp with ⟨q, -⟩ | ⟨-, q | ⟨n, j, q1, q2, q3, q4, q5⟩⟩
                  · rw [w2] at q; exact absurd q (by decide)
                  · exact z4 p hp9 q
                  · rw [w5, neN (by omega) (by omega)] at q1
                    exact z5 j (by omega) p hp9 q4 q5
                · rw [clp (by omega), z3.1 6 k (by decide), w5]; exact Int32.le_refl _
              | succ f ih4 =>
                intro i H z1 z2 z3 z4 z5
                rcases Nat.lt_or_ge i n2 with hin | hin
                · refine sM_10_127 ⟨inN hl (by decide), fun c => absurd ?_ c, fun _ => ⟨fun c => ?_, fun _ => ?_⟩⟩
                  · rw [clp (by omega), z3.1 1 k (by decide), w2]
                  · rw [clp (by omega), z3.1 6 k (by decide), w5, leN (by omega) (by omega)] at c; omega
                  · rw [mul3, clp (by omega), z3.1 8 _ (by decide), z3.1 9 _ (by decide), nI_1]
                    refine ⟨inN (by omega) (by decide), fun c3 => ?_, fun c3 => ?_⟩
                    · refine ih4 (i + 1) H (by omega) (by omega) z3 z4 (fun j hj p hp9 q1 q2 => ?_)
                      rcases Nat.lt_or_ge j i with y | y
                      · exact z5 j y p hp9 q1 q2
                      · have : j = i := by omega
                        rw [this] at q1; exact absurd c3 q1
                    · rcases w8 i hin with ⟨u1, u2, u3⟩ | ⟨w, a, u1, u2, u3, u4, u5, u6, u7⟩
                      · exact absurd u1 c3
                      · have hla := mLv_lt t2 t4 u5
                        rw [u3]
                        refine ⟨inN hla (by decide), ?_⟩
                        rw [clp (by omega)]
                        have hsa : subT (ts x) (ts a) := subT_tr hsk (mPr_ok hT0 h2 hk10 hla (Or.inr ⟨w2, Or.inr ⟨n2, i, w5, w6, hin, c3, u3⟩⟩)).2.2
                        have z6 := mMk_up z3 (q := a) (by omega) hsa
                        have keep : ∀ p, H 10 p = 1 → ai_up H 10 a 1 10 p = 1 := fun p e => by
                          by_cases ep : p = a
                          · rw [ep, up_s]
                          · rw [up_i _ ep, e]
                        refine ih4 (i + 1) _ (by omega) (by omega) z6 (fun o ho e => keep o (z4 o ho e)) (fun j hj p hp9 q1 q2 => ?_)
                        rcases Nat.lt_or_ge j i with y | y
                        · exact keep p (z5 j y p hp9 q1 q2)
                        · have : j = i := by omega
                          rw [this, u3, neN (by omega) (by omega)] at q2
                          rw [← q2, up_s]
                · exact ih4 i H (by omega) z2 z3 z4 z5
            rw [w2]
            refine ⟨fun _ => ⟨fun c => absurd rfl c, fun _ => ?_⟩, fun c => absurd c (by decide)⟩
            rcases w7 with ⟨u1, u2⟩ | ⟨o, u1, u2, u3, u4, u5, u6⟩
            · rw [u1]
              refine ⟨fun _ => L4 n2 0 H (by omega) (by omega) h3 (fun o ho e => ?_) (fun j hj => by omega), fun c => absurd m1lt c⟩
              rw [u1] at e; exact absurd e (n1N' (by omega))
            · have hlo := mLv_lt t2 t4 u3
              rw [u1]
              refine ⟨fun c => absurd c (gt0N (by omega)), fun _ => ⟨inN hlo (by decide), ?_⟩⟩
              rw [clp (by omega)]
              have hso : subT (ts x) (ts o) := subT_tr hsk (mPr_ok hT0 h2 hk10 hlo (Or.inr ⟨w2, Or.inl u1⟩)).2.2
              refine L4 n2 0 _ (by omega) (by omega) (mMk_up h3 (q := o) (by omega) hso) (fun o' ho' e => ?_) (fun j hj => by omega)
              rw [u1, neN (by omega) (by omega)] at e
              rw [← e, up_s]
  -- no mark at first
  have L2 : ∀ (f k : Nat) (H : ai_H), T - k ≤ f → 256 ≤ k → k ≤ T → (∀ c j, c ≠ 10 → H c j = h c j) → (∀ j, mLv m T j → (j < 256 ∨ j < k) → H 10 j = 0) → RM (d - 1) 10 (fun r h' => r = none ∧ ∃ k, k < 10 ∧ mMk h ts m T x k h') 27 [some (.ref 0), some (.int (nI x)), some (.int (nI k)), none] [] H := by
    intro f
    induction f with
    | zero =>
      intro k H a1 a2 a3 a4 a5
      have hk : k = T := by omega
      subst hk
      have z : ∀ j, mLv m k j → H 10 j = 0 := fun j hj => a5 j hj (by rcases hj with q | q <;> omega)
      refine sM_10_27 ⟨fun _ => ⟨inN hxl (by decide), ?_⟩, fun c => absurd ?_ c⟩
      · rw [clp (by omega)]
        refine L3 x x _ _ (Nat.le_refl _) hx ⟨fun c j q => by rw [up_k _ _ q, a4 c j q], fun j hj => ?_, fun j hj e => ?_, up_s _ _ _ _, fun j hj hkj e p hp9 hp => ?_⟩
        · rw [up_e]; split
          · exact Or.inr rfl
          · exact Or.inl (z j hj)
        · rw [up_e] at e
          by_cases ej : j = x
          · rw [ej]; exact subT_rf _
          · rw [if_neg (fun q => ej q.2), z j hj] at e; exact absurd e (by decide)
        · rw [up_e, if_neg (fun q => by omega), z j hj] at e; exact absurd e (by decide)
      · rw [a4 0 1 (by decide), hT1]; exact Int32.le_refl _
    | succ f ih =>
      intro k H a1 a2 a3 a4 a5
      rcases Nat.lt_or_ge k T with hkT | hkT
      · refine sM_10_27 ⟨fun c => ?_, fun _ => ⟨inN (by omega) (by decide), ?_⟩⟩
        · rw [a4 0 1 (by decide), hT1, leN (by omega) (by omega)] at c; omega
        · rw [clp (by omega), nI_1]
          refine ih (k + 1) _ (by omega) (by omega) (by omega) (fun c j q => by rw [up_k _ _ q, a4 c j q]) (fun j hj q => ?_)
          rw [up_e]; split
          · rfl
          · rename_i hne
            exact a5 j hj (by
              rcases q with q | q
              · exact Or.inl q
              · have : j ≠ k := fun e => hne ⟨rfl, e⟩
                exact Or.inr (by omega))
      · exact ih k H (by omega) a2 a3 a4 a5
  have L1 : ∀ (f k : Nat) (H : ai_H), m - k ≤ f → k ≤ m → (∀ c j, c ≠ 10 → H c j = h c j) → (∀ j, j < k → H 10 j = 0) → RM (d - 1) 10 (fun r h' => r = none ∧ ∃ k, k < 10 ∧ mMk h ts m T x k h') 2 [some (.ref 0), some (.int (nI x)), some (.int (nI k)), none] [] H := by
    intro f
    induction f with
    | zero =>
      intro k H a1 a3 a4 a5
      have hk : k = m := by omega
      subst hk
      refine sM_10_2 ⟨fun _ => L2 (T - 256) 256 H (by omega) (by omega) t3 a4 (fun j hj q => a5 j (by rcases hj with z | z <;> omega)), fun c => absurd ?_ c⟩
      rw [a4 0 0 (by decide), t0]; exact Int32.le_refl _
    | succ f ih =>
      intro k H a1 a3 a4 a5
      rcases Nat.lt_or_ge k m with hkT | hkT
      · refine sM_10_2 ⟨fun c => ?_, fun _ => ⟨inN (by omega) (by decide), ?_⟩⟩
        · rw [a4 0 0 (by decide), t0, leN (by omega) (by omega)] at c; omega
        · rw [clp (by omega), nI_1]
          refine ih (k + 1) _ (by omega) (by omega) (fun c j q => by rw [up_k _ _ q, a4 c j q]) (fun j hj => ?_)
          rw [up_e]; split
          · rfl
          · rename_i hne
            have : j ≠ k := fun e => hne ⟨rfl, e⟩
            exact a5 j (by omega)
      · exact ih k H (by omega) a3 a4 a5
  exact sM_10_0 (L1 m 0 h (by omega) (by omega) (fun _ _ _ => rfl) (fun j hj => by omega))
