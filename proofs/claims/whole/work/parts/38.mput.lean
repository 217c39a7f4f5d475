theorem tel_ne' {D : DS} {nd : Nat} : ∀ (s : Ty) (e p : Nat), p < dsP D e → dsP D e ≤ 3 → ∀ g : Ty, wfT D nd s → rwT (dsP D) s = false → telT s e p = some g → g ≠ tN ∧ isG g := by
  intro s e p
  induction s, e, p using telT.induct with
  | case1 o a b c e p =>
    intro hp hp3 g hw hr ht
    simp only [telT, if_true] at ht
    simp only [wfT] at hw
    obtain ⟨w1, w2, ⟨g1, g2, g3, w3⟩, w4⟩ := hw
    rcases w3 with ⟨z1, z2, z3⟩ | ⟨z1, z2, z3, z4, z5⟩
    · exfalso
      simp only [rwT, z1, Bool.or_eq_false_iff, Bool.and_eq_false_iff] at hr
      rcases hr.1 with q | q
      · simp only [decide_eq_false_iff_not] at q; omega
      · exact absurd q (by decide)
    · rcases (show p = 0 ∨ p = 1 ∨ p = 2 by omega) with rfl | rfl | rfl
      · simp only [if_true, Option.some.injEq] at ht
        rw [← ht]; exact ⟨z2, g1⟩
      · have e : g = b := by simpa using ht.symm
        rw [e]; exact ⟨fun q => by have := z3.mp q; omega, g2⟩
      · have e : g = c := by simpa using ht.symm
        rw [e]; exact ⟨fun q => by have := z4.mp q; omega, g3⟩
  | case2 e' o a b c e p h1 ih =>
    intro hp hp3 g hw hr ht
    simp only [telT, if_neg h1] at ht
    simp only [wfT] at hw
    simp only [rwT, Bool.or_eq_false_iff] at hr
    exact ih hp hp3 g hw.2.2.2.1 hr.2 ht
  | case3 s e p hn =>
    intro hp hp3 g hw hr ht
    exfalso
    unfold telT at ht
    split at ht
    · exact hn _ _ _ _ _ rfl
    · cases ht
theorem tel_ne {D : DS} {nd e p : Nat} (hp : p < dsP D e) (hp3 : dsP D e ≤ 3) (s g : Ty) : wfT D nd s → rwT (dsP D) s = false → telT s e p = some g → g ≠ tN ∧ isG g := tel_ne' s e p hp hp3 g
def fP0 (j : Nat) : Prop := j = 1 ∨ j = 24 ∨ j = 32 ∨ j = 33
/-- isTold(v, s) -/
theorem cM_isTold {d : Nat} (hd : 1 ≤ d) {Z : List Ty} {D : DS} {h : ai_H} {ts : Nat → Ty} {m T nd v s e p : Nat} (hI : mInv Z D h ts m T nd) (hv : mLv m T v) (hvt : ts v = tV e p) (hs : mLv m T s) (hsc : foT (ts s) = 5) (hraw : rwT (dsP D) (ts s) = false) :
    ∃ r h', CM d 14 [.ref 0, .int (nI v), .int (nI s)] h (some (.int r)) h' ∧ ((r = 0 ∧ h' = h ∧ telT (ts s) e p = none) ∨ (r = 1 ∧ ∃ (w a : Int32) (g : Ty), telT (ts s) e p = some g ∧ h' = ai_up (ai_up h 0 32 w) 0 33 a ∧ ((w = 3 ∧ a = -1 ∧ g = tY) ∨ ∃ w0 a0, w0 < 3 ∧ w = nI w0 ∧ a = nI a0 ∧ mLv m T a0 ∧ 10 ≤ a0 ∧ g = tG w0 (ts a0)))) := by
  have hI0 := hI
  obtain ⟨⟨⟨t0, t1, t2, t3, t4, t5, hrow, hinj⟩, hT1, -, -⟩, ⟨-, hdec⟩, hdw, hwfn, hwfz, h10⟩ := hI
  have hvl := mLv_lt t2 t4 hv
  have hwv := mInv_wf hI0 hv
  rw [hvt] at hwv
  simp only [tV, wfT] at hwv
  obtain ⟨he, hp⟩ := hwv
  have hp3 := (hdw.2.2.2.1 e he).2.1
  have hne := fun g => tel_ne (nd := nd) hp hp3 (ts s) g (mInv_wf hI0 hs) hraw
  suffices hss : ∃ r h', CM d 14 [.ref 0, .int (nI v), .int (nI s)] h r h' ∧ ((r = some (.int 0) ∧ h' = h ∧ telT (ts s) e p = none) ∨ (r = some (.int 1) ∧ ∃ (w a : Int32) (g : Ty), telT (ts s) e p = some g ∧ h' = ai_up (ai_up h 0 32 w) 0 33 a ∧ ((w = 3 ∧ a = -1 ∧ g = tY) ∨ ∃ w0 a0, w0 < 3 ∧ w = nI w0 ∧ a = nI a0 ∧ mLv m T a0 ∧ 10 ≤ a0 ∧ g = tG w0 (ts a0)))) by
    obtain ⟨r, h', hc, ⟨rfl, q⟩ | ⟨rfl, q⟩⟩ := hss
    · exact ⟨0, h', hc, Or.inl ⟨rfl, q⟩⟩
    · exact ⟨1, h', hc, Or.inr ⟨rfl, q⟩⟩
  refine iM hd rfl (sM_14_0 ?_)
  obtain ⟨v2, v3⟩ : h 2 v = nI e ∧ h 3 v = nI p := by
    rcases (hrow v hv).1 with ⟨w1, w2, w3⟩ | ⟨w0, d2, p2, w1, w2, w3, w4, -⟩ | ⟨w0, e2, w1, -⟩ | ⟨w0, d2, n2, g2, o2, w1, -⟩
    · rw [hvt] at w2; simp [tV, tP] at w2
    · rw [hvt, tV_inj] at w1; rw [w3, w4, w1.1, w1.2]; exact ⟨rfl, rfl⟩
    · rw [hvt] at w1; simp [tV, tA] at w1
    · rw [hvt] at w1; simp [tV, tC] at w1
  have L : ∀ (f k : Nat), k ≤ f → mLv m T k → foT (ts k) = 5 → telT (ts s) e p = telT (ts k) e p → RM (d - 1) 14 (fun r h' => (r = some (.int 0) ∧ h' = h ∧ telT (ts s) e p = none) ∨ (r = some (.int 1) ∧ ∃ (w a : Int32) (g : Ty), telT (ts s) e p = some g ∧ h' = ai_up (ai_up h 0 32 w) 0 33 a ∧ ((w = 3 ∧ a = -1 ∧ g = tY) ∨ ∃ w0 a0, w0 < 3 ∧ w = nI w0 ∧ a = nI a0 ∧ mLv m T a0 ∧ 10 ≤ a0 ∧ g = tG w0 (ts a0)))) 2 [some (.ref 0), some (.int (nI v)), some (.int (nI s)), some (.int (nI k))] [] h := by
    intro f
    induction f with
    | zero =>
      intro k a0 a1 a2
      exfalso
      have : k = 0 := by omega
      rcases (hrow k a1).1 with ⟨w1, w2, w3⟩ | ⟨w0, -⟩ | ⟨w0, -⟩ | ⟨w0, -⟩
      · rw [w2, this] at a2; exact absurd a2 (by decide)
      · omega
      · omega
      · omega
    | succ f ih =>
      intro k a0 a1 a2 a3
      have hl := mLv_lt t2 t4 a1
      rcases (hrow k a1).1 with ⟨w1, w2, w3⟩ | ⟨w0, d2, p2, w1, w2, -⟩ | ⟨w0, e2, w1, w2, -⟩ | ⟨w0, d2, n2, g2, o2, w1, w2, w3, w4, w5, w6, w7, w8, w9⟩
      · rw [w2] at a2; simp only [tP, foT] at a2; split at a2
        · omega
        · split at a2 <;> omega
      · rw [w1] at a2; simp [tV, foT] at a2
      · rw [w1] at a2; simp [tA, foT] at a2
      · refine sM_14_2 ⟨fun c => absurd c (gt0N (by omega)), fun _ => ⟨inN hl (by decide), inN hvl (by decide), ?_⟩⟩
        rw [clp (by omega), clp (by omega), v2, v3, w3, w5, neN (by omega) (by omega), show (0 : Int32) = nI 0 from rfl, neN (by omega) (by omega), mul3, clp (by omega)]
        refine ⟨fun c => ?_, fun c => ?_⟩
        · have ht : telT (ts s) e p = some (g2 p) := by
            rw [a3, w1]
            simp only [tC, telT, if_pos c]
            rcases (show p = 0 ∨ p = 1 ∨ p = 2 by omega) with rfl | rfl | rfl <;> rfl
          have hg := (hne _ ht).1
          have hpn : p < n2 := by
            rcases Nat.lt_or_ge p n2 with z | z
            · exact z
            · exact absurd (w9 p z) hg
          refine ⟨fun _ => ⟨inN (by omega) (by decide), Or.inr ⟨rfl, _, _, g2 p, ht, rfl, ?_⟩⟩, fun c => by omega⟩
          rcases w8 p hpn with ⟨u1, u2, u3⟩ | ⟨w, a, u1, u2, u3, u4, u5, u6, u7⟩
          · exact Or.inl ⟨u1, u2, u3⟩
          · exact Or.inr ⟨w, a, u1, u2, u3, u5, u6, u7⟩
        · have ht : telT (ts s) e p = telT o2 e p := by
            rw [a3, w1]
            simp only [tC, telT, if_neg c]
          rcases w7 with ⟨u1, u2⟩ | ⟨o, u1, u2, u3, u4, u5, u6⟩
          · rw [u1]
            exact sM_14_2 ⟨fun _ => Or.inl ⟨rfl, rfl, by rw [ht, u2]; rfl⟩, fun c => absurd m1lt c⟩
          · rw [u1]
            exact ih o (by omega) u3 u6 (by rw [ht, u5])
  exact L s s (Nat.le_refl _) hs hsc rfl
theorem mLv_fo {h : ai_H} {ts : Nat → Ty} {m T nd k : Nat} (hT : mTab h ts m T nd) (hk : mLv m T k) (hf : 3 ≤ foT (ts k)) : 10 ≤ k := by
  rcases (hT.2.2.2.2.2.2.1 k hk).1 with ⟨w1, w2, w3⟩ | ⟨w0, -⟩ | ⟨w0, -⟩ | ⟨w0, -⟩
  · rw [w2] at hf
    simp only [tP, foT] at hf
    split at hf
    · omega
    · split at hf <;> omega
  · exact w0
  · exact w0
  · exact w0
theorem nA_var {n e p : Nat} {b : Ty} (h : tV e p = nA n b) : n = 0 := by
  cases n with
  | zero => rfl
  | succ n => simp [nA, tV, tA] at h
/-- putVariable(v, s) -/
theorem cM_putVariable {d : Nat} (hd : 5 ≤ d) {Z : List Ty} {D : DS} {h : ai_H} {ts : Nat → Ty} {m T nd v s e p : Nat} (hI : mInv Z D h ts m T nd) (hv : mLv m T v) (hvt : ts v = tV e p) (hs : mLv m T s) (hsc : foT (ts s) = 5) (hraw : rwT (dsP D) (ts s) = false) (hZb : ∀ e, e < nd → brT (dsO D) 12 e ∈ Z) :
    ∃ k h', CM d 15 [.ref 0, .int (nI v), .int (nI s)] h (some (.int (nI k))) h' ∧ mRes Z D fE fP0 h ts m T nd (puT D (ts s) (tV e p)) k h' := by
  obtain ⟨r, h1, c1, c2⟩ := cM_isTold (d := d - 1) (by omega) hI hv hvt hs hsc hraw
  rcases c2 with ⟨rfl, rfl, c3⟩ | ⟨rfl, w, a, g, c3, c4, c5⟩
  · refine ⟨v, h1, iMe (by omega) rfl (sM_15_0 ⟨0, h1, c1, fun c => absurd rfl c, fun _ => ⟨rfl, rfl⟩⟩), ts, T, mEx.rf hI, hv, ?_⟩
    rw [hvt]
    simp only [tV, puT, c3]
  · have hx : mEx Z D fE fP0 h ts m T nd h1 ts T := by
      rw [c4]
      exact mEx.up (mEx.up (mEx.rf hI) w (Or.inl ⟨rfl, by omega, by omega, by omega, Or.inr (Or.inr (Or.inl rfl))⟩)) a (Or.inl ⟨rfl, by omega, by omega, by omega, Or.inr (Or.inr (Or.inr rfl))⟩)
    have e32 : h1 0 32 = w := by rw [c4, up_i _ (by decide), up_s]
    have e33 : h1 0 33 = a := by rw [c4, up_s]
    -- told by something ERASED
    have er : (puT D (ts s) (tV e p) = erT D (tV e p)) → ¬ w = 0 → ¬ w = 1 → ∃ k h', CM d 15 [.ref 0, .int (nI v), .int (nI s)] h (some (.int (nI k))) h' ∧ mRes Z D fE fP0 h ts m T nd (puT D (ts s) (tV e p)) k h' := by
      intro hpu n0 n1
      obtain ⟨k, h2, q1, ts2, T2, q2, q3, q4⟩ := cM_erasedOf (d := d - 1) (by omega) hx.1 hv hZb (fun n b j hn h1 h2 => by rw [hvt] at hn; have := nA_var hn; omega)
      refine ⟨k, h2, iMe (by omega) rfl (sM_15_0 ⟨1, h1, c1, fun _ => ⟨fun c => absurd (e32.symm.trans c) n0, fun _ => ⟨fun _ => ⟨_, h2, q1, rfl, rfl⟩, fun c => absurd (e32.symm.trans c) n1⟩⟩, fun c => absurd c (by decide)⟩), ts2, T2, hx.tr q2 (fun _ q => q) (fun c q => by rcases q with q | q; exact Or.inl q; exact Or.inr (Or.inl q)), q3, ?_⟩
      rw [q4, hvt, hpu]
    rcases c5 with ⟨u1, u2, u3⟩ | ⟨w0, a0, u1, u2, u3, u4, u5, u6⟩
    · refine er ?_ (by rw [u1]; decide) (by rw [u1]; decide)
      simp only [tV, puT, c3, u3, tY]
    · by_cases hw : w0 = 0 ∨ w0 = 1
      · have hpu : puT D (ts s) (tV e p) = ts a0 := by
          simp only [tV, puT, c3, u6, tG, if_pos hw]
        refine ⟨a0, h1, iMe (by omega) rfl (sM_15_0 ⟨1, h1, c1, fun _ => ⟨fun _ => ⟨by rw [e33, u3], rfl⟩, fun c0 => ⟨fun c1 => ?_, fun _ => ⟨by rw [e33, u3], rfl⟩⟩⟩, fun c => absurd c (by decide)⟩), ts, T, hx, u4, by rw [hpu]⟩
        exfalso
        rw [e32, u2] at c0 c1
        rcases hw with rfl | rfl
        · exact c0 rfl
        · exact c1 rfl
      · refine er ?_ ?_ ?_
        · simp only [tV, puT, c3, u6, tG, if_neg hw]
        · rw [u2, show (0 : Int32) = nI 0 from rfl, neN (by omega) (by omega)]; omega
        · rw [u2, show (1 : Int32) = nI 1 from rfl, neN (by omega) (by omega)]; omega
