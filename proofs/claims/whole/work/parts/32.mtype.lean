theorem iM {d i : Nat} {as : List Value} {h : ai_H} {Q : Option Value → ai_H → Prop} (hd : 1 ≤ d) (hl : (ai_ent (mlM i) as).length = mlM i) (hR : RM (d - 1) i Q 0 (ai_ent (mlM i) as) [] h) : ∃ r h2, CM d i as h r h2 ∧ Q r h2 := by
  obtain ⟨e, rfl⟩ : ∃ e, d = e + 1 := ⟨d - 1, by omega⟩
  exact intM hl hR
theorem iMe {d i : Nat} {as : List Value} {h h' : ai_H} {v : Option Value} (hd : 1 ≤ d) (hl : (ai_ent (mlM i) as).length = mlM i) (hR : RM (d - 1) i (fun r h2 => r = v ∧ h2 = h') 0 (ai_ent (mlM i) as) [] h) : CM d i as h v h' := by
  obtain ⟨r, h2, hc, rfl, rfl⟩ := iM hd hl hR
  exact hc
theorem tG_inj {w v : Nat} {a b : Ty} : tG w a = tG v b ↔ w = v ∧ a = b := by simp [tG]
theorem tC_inj {d e : Nat} {o p a b c x y z : Ty} : tC d o a b c = tC e p x y z ↔ d = e ∧ o = p ∧ a = x ∧ b = y ∧ c = z := by simp [tC]
theorem tV_inj {d e p q : Nat} : tV d p = tV e q ↔ d = e ∧ p = q := by simp [tV]
theorem tA_inj {a b : Ty} : tA a = tA b ↔ a = b := by simp [tA]
theorem ag_cmp {h : ai_H} {ts : Nat → Ty} {m T nd k j i : Nat} {g g' : Ty} (hT : mTab h ts m T nd) (hA : mAg h ts m T k j g') (hN : mNs h ts m T i g) :
    (h 8 j = h 21 i ∧ h 21 i = 3 ∧ g' = g) ∨ (¬ h 8 j = h 21 i ∧ g' ≠ g) ∨ (h 8 j = h 21 i ∧ ¬ h 21 i = 3 ∧ h 9 j = h 22 i ∧ g' = g) ∨ (h 8 j = h 21 i ∧ ¬ h 21 i = 3 ∧ ¬ h 9 j = h 22 i ∧ g' ≠ g) := by
  obtain ⟨-, t1, t2, t3, t4, -, -, hinj⟩ := hT
  rcases hA with ⟨a1, a2, a3⟩ | ⟨w, a, a1, a2, a3, a4, a5, a6, a7⟩
  · rcases hN with ⟨b1, b2⟩ | ⟨v, x, b1, b2, b3, b4, b5, b6⟩
    · exact Or.inl ⟨by rw [a1, b1], b1, by rw [a3, b2]⟩
    · refine Or.inr (Or.inl ⟨?_, ?_⟩)
      · rw [a1, b2, show (3 : Int32) = nI 3 from rfl, neN (by omega) (by omega)]; omega
      · rw [a3, b6]; simp [tY, tG]
  · have l1 := mLv_lt t2 t4 a5
    rcases hN with ⟨b1, b2⟩ | ⟨v, x, b1, b2, b3, b4, b5, b6⟩
    · refine Or.inr (Or.inl ⟨?_, ?_⟩)
      · rw [a2, b1, show (3 : Int32) = nI 3 from rfl, neN (by omega) (by omega)]; omega
      · rw [a7, b2]; simp [tY, tG]
    · have l2 := mLv_lt t2 t4 b4
      have n3 : ¬ h 21 i = 3 := by rw [b2, show (3 : Int32) = nI 3 from rfl, neN (by omega) (by omega)]; omega
      by_cases hwv : w = v
      · subst hwv
        by_cases hax : a = x
        · subst hax
          exact Or.inr (Or.inr (Or.inl ⟨by rw [a2, b2], n3, by rw [a3, b3], by rw [a7, b6]⟩))
        · refine Or.inr (Or.inr (Or.inr ⟨by rw [a2, b2], n3, ?_, ?_⟩))
          · rw [a3, b3, neN (by omega) (by omega)]; exact hax
          · rw [a7, b6, Ne, tG_inj]
            exact fun q => hax (hinj a x a5 b4 q.2)
      · refine Or.inr (Or.inl ⟨?_, ?_⟩)
        · rw [a2, b2, neN (by omega) (by omega)]; exact hwv
        · rw [a7, b6, Ne, tG_inj]
          exact fun q => hwv q.1
theorem cM_isSame_l {d : Nat} {Q : Option Value → ai_H → Prop} {h : ai_H} {ts : Nat → Ty} {m T nd k n : Nat} {g g' : Nat → Ty} {x2 x3 x4 x5 x6 : Int32} (hT : mTab h ts m T nd) (hk : k < 6256) (hN : mNw h ts m T n g) (hA : ∀ i, i < n → mAg h ts m T k (3 * k + i) (g' i))
    (q1 : (∀ i, i < n → g' i = g i) → Q (some (.int 1)) h) (q0 : (∃ i, i < n ∧ g' i ≠ g i) → Q (some (.int 0)) h) : ∀ (f i : Nat), n - i ≤ f → i ≤ n → (∀ j, j < i → g' j = g j) → RM d 3 Q 106 [some (.ref 0), some (.int (nI k)), some (.int x2), some (.int x3), some (.int x4), some (.int x5), some (.int x6), some (.int 1), some (.int (nI i))] [] h := by
  obtain ⟨n1, n2, n3, n4⟩ := hN
  have z0 : ∀ (i : Nat), (∃ i, i < n ∧ g' i ≠ g i) → RM d 3 Q 106 [some (.ref 0), some (.int (nI k)), some (.int x2), some (.int x3), some (.int x4), some (.int x5), some (.int x6), some (.int 0), some (.int (nI i + 1))] [] h := fun i e => sM_3_106 ⟨fun _ => ⟨Or.inl rfl, q0 e⟩, fun _ => ⟨fun _ => ⟨Or.inl rfl, q0 e⟩, fun c => absurd rfl c⟩⟩
  intro f
  induction f with
  | zero =>
    intro i h1 h2 h3
    have hi : i = n := by omega
    subst hi
    refine sM_3_106 ⟨fun _ => ⟨Or.inr rfl, q1 h3⟩, fun c => absurd ?_ c⟩
    rw [n1]; exact Int32.le_refl _
  | succ f ih =>
    intro i h1 h2 h3
    refine sM_3_106 ⟨fun c => ?_, fun c => ⟨fun c => absurd c (by decide), fun _ => ?_⟩⟩
    · rw [n1, leN (by omega) (by omega)] at c
      have hi : i = n := by omega
      subst hi
      exact ⟨Or.inr rfl, q1 h3⟩
    · rw [n1, leN (by omega) (by omega)] at c
      have hin : i < n := by omega
      rw [mul3, clp (by omega), clp (by omega)]
      refine ⟨inN (by omega) (by decide), inN (by omega) (by decide), ?_⟩
      have step : g' i = g i → RM d 3 Q 106 [some (.ref 0), some (.int (nI k)), some (.int x2), some (.int x3), some (.int x4), some (.int x5), some (.int x6), some (.int 1), some (.int (nI i + 1))] [] h := by
        intro e
        rw [nI_1]
        exact ih (i + 1) (by omega) (by omega) (fun j hj => by
          rcases Nat.lt_or_ge j i with q | q
          · exact h3 j q
          · have : j = i := by omega
            rw [this]; exact e)
      rcases ag_cmp hT (hA i hin) (n3 i hin) with ⟨a1, a2, a3⟩ | ⟨a1, a2⟩ | ⟨a1, a2, a3, a4⟩ | ⟨a1, a2, a3, a4⟩
      · exact ⟨fun c => absurd a1 c, fun _ => ⟨fun _ => step a3, fun c => absurd a2 c⟩⟩
      · exact ⟨fun _ => z0 i ⟨i, hin, a2⟩, fun c => absurd c a1⟩
      · exact ⟨fun c => absurd a1 c, fun _ => ⟨fun c => absurd c a2, fun _ => ⟨fun c => absurd a3 c, fun _ => step a4⟩⟩⟩
      · exact ⟨fun c => absurd a1 c, fun _ => ⟨fun c => absurd c a2, fun _ => ⟨fun _ => z0 i ⟨i, hin, a4⟩, fun c => absurd c a3⟩⟩⟩
set_option maxHeartbeats 1000000 in
theorem cM_isSame {d : Nat} (hd : 1 ≤ d) {h : ai_H} {ts : Nat → Ty} {m T nd k : Nat} {x2 x3 x4 x5 x6 : Int32} {t : Ty} (hT : mTab h ts m T nd) (hk : mLv m T k) (hk10 : 10 ≤ k) (hg : mTg h ts m T nd x2 x3 x4 x5 x6 t) :
    ∃ r, CM d 3 [.ref 0, .int (nI k), .int x2, .int x3, .int x4, .int x5, .int x6] h (some (.int r)) h ∧ ((r = 1 ∧ ts k = t) ∨ (r = 0 ∧ ts k ≠ t)) := by
  have hT0 := hT
  obtain ⟨-, t1, t2, t3, t4, t5, hrow, hinj⟩ := hT
  have hkl := mLv_lt t2 t4 hk
  suffices hs : ∃ r h2, CM d 3 [.ref 0, .int (nI k), .int x2, .int x3, .int x4, .int x5, .int x6] h r h2 ∧ (h2 = h ∧ ((r = some (.int 1) ∧ ts k = t) ∨ (r = some (.int 0) ∧ ts k ≠ t))) by
    obtain ⟨r, h2, hc, rfl, e | e⟩ := hs
    · exact ⟨1, e.1 ▸ hc, Or.inl ⟨rfl, e.2⟩⟩
    · exact ⟨0, e.1 ▸ hc, Or.inr ⟨rfl, e.2⟩⟩
  refine iM hd rfl ?_
  have q1 : ts k = t → (h = h ∧ ((some (Value.int 1) = some (Value.int 1) ∧ ts k = t) ∨ (some (Value.int 1) = some (Value.int 0) ∧ ts k ≠ t))) := fun e => ⟨rfl, Or.inl ⟨rfl, e⟩⟩
  have q0 : ts k ≠ t → (h = h ∧ ((some (Value.int 0) = some (Value.int 1) ∧ ts k = t) ∨ (some (Value.int 0) = some (Value.int 0) ∧ ts k ≠ t))) := fun e => ⟨rfl, Or.inr ⟨rfl, e⟩⟩
  have c34 : ¬ (3 : Int32) = 4 := by decide
  have c35 : ¬ (3 : Int32) = 5 := by decide
  have c45 : ¬ (4 : Int32) = 5 := by decide
  have c43 : ¬ (4 : Int32) = 3 := by decide
  have c53 : ¬ (5 : Int32) = 3 := by decide
  have c54 : ¬ (5 : Int32) = 4 := by decide
  refine sM_3_0 ⟨inN hkl (by decide), ?_⟩
  rw [clp (by omega)]
  rcases hg with ⟨rfl, d1, p1, rfl, rfl, g3, g4, rfl⟩ | ⟨rfl, e1, rfl, g3, rfl⟩ | ⟨rfl, d1, n1, g, ot, rfl, g3, g4, g5, rfl⟩
  · rcases (hrow k hk).1 with ⟨w1, -⟩ | ⟨-, d2, p2, w1, w2, w3, w4, w5, w6⟩ | ⟨-, e2, w1, w2, -⟩ | ⟨-, d2, n2, g2, o2, w1, w2, -⟩
    · omega
    · rw [w2, w3, w4, neN (by omega) (by omega), neN (by omega) (by omega)]
      refine ⟨fun c => absurd rfl c, fun _ => ⟨fun _ => ⟨fun c => ⟨fun _ => q0 ?_, fun c => absurd c c35⟩, fun c => ⟨fun c => absurd rfl c, fun _ => ⟨fun c2 => ⟨fun _ => q0 ?_, fun c => absurd c c35⟩, fun c2 => ⟨fun _ => q1 ?_, fun c => absurd c c35⟩⟩⟩⟩, fun c => absurd c c34⟩⟩
      · rw [w1, Ne, tV_inj]; exact fun q => c q.1
      · rw [w1, Ne, tV_inj]; exact fun q => c2 q.2
      · rw [w1, c, c2]
    · rw [w2]
      exact ⟨fun _ => ⟨fun _ => q0 (by rw [w1]; simp [tA, tV]), fun c => absurd c c35⟩, fun c => absurd c c43⟩
    · rw [w2]
      exact ⟨fun _ => ⟨fun _ => q0 (by rw [w1]; simp [tC, tV]), fun c => absurd c c35⟩, fun c => absurd c c53⟩
  · have l1 := mLv_lt t2 t4 g3
    rcases (hrow k hk).1 with ⟨w1, -⟩ | ⟨-, d2, p2, w1, w2, w3, w4, w5, w6⟩ | ⟨-, e2, w1, w2, w3, w4, w5⟩ | ⟨-, d2, n2, g2, o2, w1, w2, -⟩
    · omega
    · rw [w2]
      exact ⟨fun _ => ⟨fun _ => q0 (by rw [w1]; simp [tA, tV]), fun c => absurd c c45⟩, fun c => absurd c c34⟩
    · have l2 := mLv_lt t2 t4 w5
      rw [w2, w3, neN (by omega) (by omega)]
      refine ⟨fun c => absurd rfl c, fun _ => ⟨fun c => absurd rfl c, fun _ => ⟨fun c => ⟨fun _ => q0 ?_, fun c => absurd c c45⟩, fun c => ⟨fun _ => ⟨fun _ => q1 ?_, fun c => absurd c c45⟩, fun c => absurd c c43⟩⟩⟩⟩
      · rw [w1, Ne, tA_inj]; exact fun q => c (hinj _ _ w5 g3 q)
      · rw [w1, c]
    · rw [w2]
      exact ⟨fun _ => ⟨fun _ => q0 (by rw [w1]; simp [tC, tA]), fun c => absurd c c45⟩, fun c => absurd c c54⟩
  · have z0 : ts k ≠ tC d1 ot (g 0) (g 1) (g 2) → RM (d - 1) 3 (fun r h2 => h2 = h ∧ ((r = some (Value.int 1) ∧ ts k = tC d1 ot (g 0) (g 1) (g 2)) ∨ (r = some (Value.int 0) ∧ ts k ≠ tC d1 ot (g 0) (g 1) (g 2)))) 106 [some (.ref 0), some (.int (nI k)), some (.int 5), some (.int (nI d1)), some (.int x4), some (.int x5), some (.int x6), some (.int 0), some (.int 0)] [] h := fun e => sM_3_106 ⟨fun _ => ⟨Or.inl rfl, q0 e⟩, fun _ => ⟨fun _ => ⟨Or.inl rfl, q0 e⟩, fun c => absurd rfl c⟩⟩
    rcases (hrow k hk).1 with ⟨w1, -⟩ | ⟨-, d2, p2, w1, w2, w3, w4, w5, w6⟩ | ⟨-, e2, w1, w2, w3, w4, w5⟩ | ⟨-, d2, n2, g2, o2, w1, w2, w3, w4, w5, w6, w7, w8, w9⟩
    · omega
    · rw [w2]
      exact ⟨fun _ => ⟨fun c => absurd rfl c, fun _ => z0 (by rw [w1]; simp [tC, tV])⟩, fun c => absurd c c35⟩
    · rw [w2]
      exact ⟨fun _ => ⟨fun c => absurd rfl c, fun _ => z0 (by rw [w1]; simp [tC, tA])⟩, fun c => absurd c c45⟩
    · have hgn := g4
      obtain ⟨m1, m2, m3, m4⟩ := g4
      rw [w2, w3, w5, m1, neN (by omega) (by omega), neN (by omega) (by omega)]
      refine ⟨fun c => absurd rfl c, fun _ => ⟨fun _ => ⟨fun c => ⟨fun c => absurd rfl c, fun _ => z0 ?_⟩, fun c => ⟨fun _ => ⟨fun c => absurd rfl c, fun _ => ⟨fun c2 => z0 ?_, fun c2 => ⟨fun c3 => z0 ?_, fun c3 => ?_⟩⟩⟩, fun c => absurd c c53⟩⟩, fun c => absurd c c54⟩⟩
      · rw [w1, Ne, tC_inj]; exact fun q => c q.1
      · rw [w1, Ne, tC_inj]
        intro q
        apply c2
        rcases w7 with ⟨u1, u2⟩ | ⟨o, u1, u2, u3, u4, u5, u6⟩
        · rcases g5 with ⟨v1, v2⟩ | ⟨o', v1, v2, v3, v4, v5⟩
          · rw [u1, v1]
          · exfalso
            have := q.2.1
            rw [u2, v4] at this
            rw [← this] at v5
            simp [tN, foT] at v5
        · rcases g5 with ⟨v1, v2⟩ | ⟨o', v1, v2, v3, v4, v5⟩
          · exfalso
            have := q.2.1
            rw [u5, v2] at this
            rw [this] at u6
            simp [tN, foT] at u6
          · have := q.2.1
            rw [u5, v4] at this
            rw [u1, v1, hinj o o' u3 v2 this]
      · rw [w1, Ne, tC_inj]
        intro q
        apply c3
        -- the numbers of ARGUMENTS are those of the trees
        have key : ∀ (n : Nat) (g g2 : Nat → Ty) (n2 : Nat), n ≤ 3 → (∀ i, n2 ≤ i → g2 i = tN) → (∀ i, i < n → g i ≠ tN) → (∀ i, i < 3 → g2 i = g i) → n ≤ n2 := by
          intro n g g2 n2 hn h1 h2 h3
          rcases Nat.lt_or_ge n2 n with z | z
          · exact absurd ((h3 n2 (by omega)).symm.trans (h1 n2 (Nat.le_refl _))) (h2 n2 z)
          · exact z
        have eqs : ∀ i, i < 3 → g2 i = g i := by
          intro i hi
          rcases (show i = 0 ∨ i = 1 ∨ i = 2 by omega) with rfl | rfl | rfl
          · exact q.2.2.1
          · exact q.2.2.2.1
          · exact q.2.2.2.2
        have ne1 : ∀ i, i < n1 → g i ≠ tN := by
          intro i hi
          rcases m3 i hi with ⟨-, e⟩ | ⟨_, _, _, _, _, _, _, e⟩ <;> rw [e] <;> simp [tY, tN, tG]
        have ne2 : ∀ i, i < n2 → g2 i ≠ tN := by
          intro i hi
          rcases w8 i hi with ⟨-, -, e⟩ | ⟨_, _, _, _, _, _, _, _, e⟩ <;> rw [e] <;> simp [tY, tN, tG]
        have k1 := key n1 g g2 n2 m2 w9 ne1 eqs
        have k2 := key n2 g2 g n1 w6 m4 ne2 (fun i hi => (eqs i hi).symm)
        omega
      · have ho : o2 = ot := by
          rcases w7 with ⟨u1, u2⟩ | ⟨o, u1, u2, u3, u4, u5, u6⟩
          · rcases g5 with ⟨v1, v2⟩ | ⟨o', v1, v2, v3, v4, v5⟩
            · rw [u2, v2]
            · exfalso
              rw [u1, v1] at c2
              have := mLv_lt t2 t4 v2
              exact n1N' (by omega) c2
          · have := mLv_lt t2 t4 u3
            rcases g5 with ⟨v1, v2⟩ | ⟨o', v1, v2, v3, v4, v5⟩
            · exfalso
              rw [u1, v1] at c2
              exact n1N (by omega) c2
            · have := mLv_lt t2 t4 v2
              rw [u1, v1, neN (by omega) (by omega)] at c2
              rw [u5, v4, c2]
        subst c3
        subst ho
        subst c
        refine cM_isSame_l (n := n2) (i := 0) (f := n2) (g := g) (g' := g2) hT0 hkl hgn w8 (fun e => q1 ?_) (fun e => q0 ?_) (by omega) (by omega) (fun j hj => by omega)
        · have e3 : ∀ i, g2 i = g i := fun i => by
            rcases Nat.lt_or_ge i n2 with z | z
            · exact e i z
            · rw [w9 i z, m4 i z]
          rw [w1, e3 0, e3 1, e3 2]
        · rw [w1, Ne, tC_inj]
          intro q
          obtain ⟨i, hi, hne⟩ := e
          rcases (show i = 0 ∨ i = 1 ∨ i = 2 by omega) with rfl | rfl | rfl
          · exact hne q.2.2.1
          · exact hne q.2.2.2.1
          · exact hne q.2.2.2.2
