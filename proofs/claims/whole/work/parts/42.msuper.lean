theorem puT_cl {D : DS} {s : Ty} : ∀ t : Ty, opT t = false → puT D s t = t := by
  intro t
  induction t using opT.induct with
  | case1 t ih =>
    intro h
    simp only [opT] at h
    simp only [puT, ih h]
  | case2 d o a b c ih1 ih2 ih3 ih4 =>
    intro h
    simp only [opT, Bool.or_eq_false_iff] at h
    simp only [puT, ih1 h.1.1.1, ih2 h.1.1.2, ih3 h.1.2, ih4 h.2]
  | case3 w t ih =>
    intro h
    simp only [opT] at h
    have e := ih h
    unfold puT
    split
    · rename_i h1; cases h1
    · rename_i h1; cases h1
    · rename_i h1; cases h1
    · rename_i h1; cases h1; simp [opT] at h
    · rename_i h1; cases h1; rw [e]
    · rfl
  | case4 x y =>
    intro h
    simp [opT] at h
  | case5 t n1 n2 n3 n4 =>
    intro _
    unfold puT
    split
    · exact absurd rfl (n4 _ _)
    · exact absurd rfl (n1 _)
    · exact absurd rfl (n2 _ _ _ _ _)
    · exact absurd rfl (n3 _ _)
    · exact absurd rfl (n3 _ _)
    · rfl
theorem opT_sub {t u : Ty} (h : subT t u) (ho : opT t = false) : opT u = false := by
  induction t, u using subT.induct with
  | case1 u t ih =>
    simp only [subT] at h
    simp only [opT] at ho
    rcases h with rfl | h
    · simpa only [opT] using ho
    · exact ih h ho
  | case2 u d o a b c ih1 ih2 ih3 ih4 =>
    simp only [subT] at h
    have ho2 := ho
    simp only [opT, Bool.or_eq_false_iff] at ho
    rcases h with rfl | h | h | h | h
    · exact ho2
    · exact ih1 h ho.1.1.1
    · exact ih2 h ho.1.1.2
    · exact ih3 h ho.1.2
    · exact ih4 h ho.2
  | case3 u w t ih =>
    simp only [subT] at h
    simp only [opT] at ho
    rcases h with rfl | h
    · simpa only [opT] using ho
    · exact ih h ho
  | case4 t u n1 n2 n3 =>
    unfold subT at h
    split at h
    · exact absurd rfl (n1 _)
    · exact absurd rfl (n2 _ _ _ _ _)
    · exact absurd rfl (n3 _ _)
    · rw [h]; exact ho
/-- the TYPES in a row's tree are rows ahead of it -/
theorem sub_row {h : ai_H} {ts : Nat → Ty} {m T nd : Nat} (hT : mTab h ts m T nd) : ∀ (n k : Nat) (u : Ty), k ≤ n → mLv m T k → subT (ts k) u → foT u ≤ 5 → ∃ j, mLv m T j ∧ j ≤ k ∧ ts j = u := by
  obtain ⟨t0, t1, t2, t3, t4, t5, hrow, hinj⟩ := hT
  intro n
  induction n with
  | zero =>
    intro k u h1 h2 h3 h4
    rcases (hrow k h2).1 with ⟨w1, w2, w3⟩ | ⟨w0, -⟩ | ⟨w0, -⟩ | ⟨w0, -⟩
    · rw [w2] at h3
      simp only [tP, subT] at h3
      exact ⟨k, h2, Nat.le_refl _, by rw [w2, h3]; rfl⟩
    · omega
    · omega
    · omega
  | succ n ih =>
    intro k u h1 h2 h3 h4
    have self : u = ts k → ∃ j, mLv m T j ∧ j ≤ k ∧ ts j = u := fun e => ⟨k, h2, Nat.le_refl _, e.symm⟩
    rcases (hrow k h2).1 with ⟨w1, w2, w3⟩ | ⟨w0, d2, p2, w1, w2, w3, w4, w5, w6⟩ | ⟨w0, e2, w1, w2, w3, w4, w5⟩ | ⟨w0, d2, n2, g2, o2, w1, w2, w3, w4, w5, w6, w7, w8, w9⟩
    · rw [w2] at h3
      simp only [tP, subT] at h3
      exact self (by rw [w2, h3]; rfl)
    · rw [w1] at h3
      simp only [tV, subT] at h3
      exact self (by rw [w1, h3]; rfl)
    · rw [w1, subT_A] at h3
      rcases h3 with h3 | h3
      · exact self (by rw [w1, h3])
      · obtain ⟨j, q1, q2, q3⟩ := ih e2 u (by omega) w5 h3 h4
        exact ⟨j, q1, by omega, q3⟩
    · rw [w1, subT_C] at h3
      have hg : ∀ i, i < 3 → subT (g2 i) u → ∃ j, mLv m T j ∧ j ≤ k ∧ ts j = u := by
        intro i hi h5
        rcases Nat.lt_or_ge i n2 with hin | hin
        · rcases w8 i hin with ⟨u1, u2, u3⟩ | ⟨w, a, u1, u2, u3, u4, u5, u6, u7⟩
          · rw [u3] at h5
            simp only [tY, subT] at h5
            rw [h5] at h4; simp [foT] at h4
          · rw [u7, subT_G] at h5
            rcases h5 with h5 | h5
            · rw [h5] at h4; simp [tG, foT] at h4
            · obtain ⟨j, q1, q2, q3⟩ := ih a u (by omega) u5 h5 h4
              exact ⟨j, q1, by omega, q3⟩
        · rw [w9 i hin] at h5
          simp only [tN, subT] at h5
          rw [h5] at h4; simp [foT] at h4
      rcases h3 with h5 | h5 | h5 | h5 | h5
      · exact self (by rw [w1, h5])
      · rcases w7 with ⟨u1, u2⟩ | ⟨o, u1, u2, u3, u4, u5, u6⟩
        · rw [u2] at h5
          simp only [tN, subT] at h5
          rw [h5] at h4; simp [foT] at h4
        · rw [u5] at h5
          obtain ⟨j, q1, q2, q3⟩ := ih o u (by omega) u3 h5 h4
          exact ⟨j, q1, by omega, q3⟩
      · exact hg 0 (by omega) h5
      · exact hg 1 (by omega) h5
      · exact hg 2 (by omega) h5
theorem PU_cls {D : DS} {s P : Ty} {d : Nat} (hP : fltT d P) : foT (PU D s P) = 5 ∧ dcl (PU D s P) = dcl P := by
  obtain ⟨e, o, a, b, c, rfl, -⟩ := hP
  unfold PU
  split
  · exact brT_fo _ _ _
  · exact ⟨rfl, rfl⟩
/-- the first PARENT toward a DECLARATION -/
def fpT (D : DS) (e d : Nat) : Option Ty := (dsR D e).find? fun P => rch D 12 (dcl P) d
theorem fpT_some {D : DS} {e d : Nat} {P : Ty} (h : fpT D e d = some P) : P ∈ dsR D e ∧ rch D 12 (dcl P) d = true := ⟨List.mem_of_find?_eq_some h, by simpa using List.find?_some h⟩
theorem suT_eq (D : DS) (n : Nat) (s : Ty) (d : Nat) : suT D (n + 1) s d = if dcl s = d then some s else match fpT D (dcl s) d with
    | none => none
    | some P => suT D n (PU D s P) d := rfl
theorem suT_fuel {D : DS} {nd : Nat} (hdw : dWf D nd) : ∀ (n n' : Nat) (s : Ty) (d : Nat), dcl s < nd → dcl s ≤ n → dcl s ≤ n' → suT D n s d = suT D n' s d := by
  have z : ∀ (n : Nat) (s : Ty) (d : Nat), dcl s < nd → dcl s = 0 → suT D n s d = if dcl s = d then some s else none := by
    intro n s d h1 h2
    cases n with
    | zero => rfl
    | succ n =>
      rw [suT_eq]
      split
      · rfl
      · cases hf : fpT D (dcl s) d with
        | none => rfl
        | some P =>
          have := ((hdw.2.2.2.1 _ h1).2.2.1 P (fpT_some hf).1).2.1
          omega
  intro n
  induction n with
  | zero =>
    intro n' s d h1 h2 h3
    rw [z 0 s d h1 (by omega), z n' s d h1 (by omega)]
  | succ n ih =>
    intro n' s d h1 h2 h3
    cases n' with
    | zero => rw [z _ s d h1 (by omega), z 0 s d h1 (by omega)]
    | succ n' =>
      rw [suT_eq, suT_eq]
      split
      · rfl
      · cases hf : fpT D (dcl s) d with
        | none => rfl
        | some P =>
          obtain ⟨q1, q2, -⟩ := (hdw.2.2.2.1 _ h1).2.2.1 P (fpT_some hf).1
          have hc := (PU_cls (D := D) (s := s) q1).2
          exact ih n' (PU D s P) d (by omega) (by omega) (by omega)
theorem suT_step {D : DS} {nd : Nat} (hdw : dWf D nd) {s : Ty} {d : Nat} (hs : dcl s < nd) (hne : ¬ dcl s = d) : suT D 12 s d = match fpT D (dcl s) d with
    | none => none
    | some P => suT D 12 (PU D s P) d := by
  have h12 := hdw.2.1
  rw [suT_fuel hdw 12 13 s d hs (by omega) (by omega), suT_eq, if_neg hne]
/-- the first PARENT toward d is the first one toward what lies on the way -/
theorem fpT_way {D : DS} {nd e d f : Nat} {P : Ty} (hdw : dWf D nd) (he : e < nd) (h : fpT D e d = some P) (h1 : rch D 12 (dcl P) f = true) (h2 : rch D 12 f d = true) : fpT D e f = some P := by
  unfold fpT at h ⊢
  rw [List.find?_eq_some_iff_append] at h ⊢
  obtain ⟨q, as, bs, q2, q3⟩ := h
  refine ⟨by simpa using h1, as, bs, q2, fun P' hP' => ?_⟩
  have hmem : P' ∈ dsR D e := by rw [q2]; exact List.mem_append_left _ hP'
  have hlt := ((hdw.2.2.2.1 e he).2.2.1 P' hmem).2.1
  have := q3 P' hP'
  simp only [Bool.not_eq_true', Bool.not_eq_eq_eq_not, Bool.not_true] at this ⊢
  cases hr : rch D 12 (dcl P') f with
  | false => rfl
  | true =>
    rw [rch_tr hdw _ (dcl P') f d (Nat.le_refl _) (by omega) hr h2] at this
    cases this
set_option maxHeartbeats 1000000 in
/-- superOf(a, e) -/
theorem cM_superOf {d : Nat} (hd : 8 ≤ d) {Z : List Ty} {D : DS} {h : ai_H} {ts : Nat → Ty} {m T nd a e : Nat} (hI : mInv Z D h ts m T nd) (ha : mLv m T a) (hac : foT (ts a) = 5) (he : e < nd) (hZb : ∀ e, e < nd → brT (dsO D) 12 e ∈ Z) (hZn : ∀ b, b < m → 10 ≤ b → ts b ∈ Z) (hZs : ∀ f s, suT D 12 (ts a) f = some s → s ∈ Z) :
    (rch D 12 (dcl (ts a)) e = false ∧ CM d 20 [.ref 0, .int (nI a), .int (nI e)] h (some (.int (-1))) h) ∨ (rch D 12 (dcl (ts a)) e = true ∧ ∃ s k h', suT D 12 (ts a) e = some s ∧ CM d 20 [.ref 0, .int (nI a), .int (nI e)] h (some (.int (nI k))) h' ∧ mRes Z D fI fP0 h ts m T nd s k h') := by
  have hI0 := hI
  obtain ⟨⟨hTab, hT1, -, -⟩, ⟨-, hdec⟩, hdw, hwfn, hwfz, h10⟩ := hI
  obtain ⟨t0, t1, t2, t3, t4, t5, hrow, hinj⟩ := id hTab
  have hal := mLv_lt t2 t4 ha
  obtain ⟨ra2, rad⟩ := mRow_dcl hTab ha hac
  have cto := cM_comesTo (d := d - 1) (by omega) hI0 rad he
  cases hr : rch D 12 (dcl (ts a)) e with
  | false =>
    left
    refine ⟨rfl, iMe (by omega) rfl (sM_20_0 ⟨inN hal (by decide), _, h, by rw [clp (by omega), ra2]; exact cto, fun c => ?_, fun _ => ⟨rfl, rfl⟩⟩)⟩
    rw [if_neg (by rw [hr]; decide)] at c
    exact absurd rfl c
  | true =>
    right
    refine ⟨rfl, ?_⟩
    suffices hss : ∃ r h', CM d 20 [.ref 0, .int (nI a), .int (nI e)] h r h' ∧ ∃ s k, r = some (.int (nI k)) ∧ suT D 12 (ts a) e = some s ∧ mRes Z D fI fP0 h ts m T nd s k h' by
      obtain ⟨r, h', hc, s, k, rfl, q1, q2⟩ := hss
      exact ⟨s, k, h', q1, hc, q2⟩
    refine iM (by omega) rfl (sM_20_0 ⟨inN hal (by decide), _, h, by rw [clp (by omega), ra2]; exact cto, fun _ => ?_, fun c => ?_⟩)
    · have L : ∀ (f t : Nat) (o4 : Option Value) (H : ai_H) (tsH : Nat → Ty) (TH : Nat), dcl (tsH t) ≤ f → mEx Z D fI fP0 h ts m T nd H tsH TH → mLv m TH t → foT (tsH t) = 5 → rch D 12 (dcl (tsH t)) e = true → (∀ g, rch D 12 (dcl (tsH t)) g = true → rch D 12 g e = true → suT D 12 (ts a) g = suT D 12 (tsH t) g) → RM (d - 1) 20 (fun r h' => ∃ s k, r = some (.int (nI k)) ∧ suT D 12 (ts a) e = some s ∧ mRes Z D fI fP0 h ts m T nd s k h') 18 [some (.ref 0), some (.int (nI a)), some (.int (nI e)), some (.int (nI t)), o4] [] H := by
        intro f
        induction f with
        | zero =>
          intro t o4 H tsH TH b1 b2 b3 b4 b5 b6
          have hTabH := b2.1.1.1
          have htl := mLv_lt t2 hTabH.2.2.2.2.1 b3
          obtain ⟨r2, rd⟩ := mRow_dcl hTabH b3 b4
          have hle := rch_le hdw _ _ e (Nat.le_refl _) rd b5
          have hee : dcl (tsH t) = e := by omega
          refine sM_20_18 ⟨inN htl (by decide), fun _ => ⟨tsH t, t, rfl, ?_, tsH, TH, b2, b3, rfl⟩, fun c => absurd ?_ c⟩
          · rw [b6 e b5 ((rch_iff hdw he).mpr (Or.inl rfl))]
            rw [suT_fuel hdw 12 13 _ e rd (by omega) (by omega), suT_eq, if_pos hee]
          · rw [clp (by omega), r2, hee]
        | succ f ih =>
          intro t o4 H tsH TH b1 b2 b3 b4 b5 b6
          have hTabH := b2.1.1.1
          have htl := mLv_lt t2 hTabH.2.2.2.2.1 b3
          obtain ⟨r2, rd⟩ := mRow_dcl hTabH b3 b4
          by_cases hee : dcl (tsH t) = e
          · refine sM_20_18 ⟨inN htl (by decide), fun _ => ⟨tsH t, t, rfl, ?_, tsH, TH, b2, b3, rfl⟩, fun c => absurd ?_ c⟩
            · rw [b6 e b5 ((rch_iff hdw he).mpr (Or.inl rfl))]
              rw [suT_fuel hdw 12 13 _ e rd (by omega) (by omega), suT_eq, if_pos hee]
            · rw [clp (by omega), r2, hee]
          · refine sM_20_18 ⟨inN htl (by decide), fun c => ?_, fun _ => ?_⟩
            · rw [clp (by omega), r2, neN (by omega) (by omega)] at c
              exact absurd c hee
            -- the first PARENT toward e
            · obtain ⟨-, -, -, ⟨p1, p2⟩, -⟩ := b2.1.2.1.2 _ rd
              obtain ⟨-, -, hpar, hpl, -⟩ := hdw.2.2.2.1 _ rd
              have L2 : ∀ (f2 i : Nat), (dsR D (dcl (tsH t))).length - i ≤ f2 → (∀ j P, j < i → (dsR D (dcl (tsH t)))[j]? = some P → rch D 12 (dcl P) e = false) → RM (d - 1) 20 (fun r h' => ∃ s k, r = some (.int (nI k)) ∧ suT D 12 (ts a) e = some s ∧ mRes Z D fI fP0 h ts m T nd s k h') 31 [some (.ref 0), some (.int (nI a)), some (.int (nI e)), some (.int (nI t)), some (.int (nI i))] [] H := by
                intro f2
                induction f2 with
                | zero =>
                  intro i c1 c2
                  exfalso
                  rcases (rch_iff hdw rd).mp b5 with q | ⟨P, hP, q⟩
                  · exact hee q
                  · obtain ⟨j, hj, hj2⟩ := List.mem_iff_getElem.mp hP
                    rw [c2 j P (by omega) (by rw [List.getElem?_eq_getElem hj, hj2])] at q
                    cases q
                | succ f2 ih2 =>
                  intro i c1 c2
                  have hin : i < (dsR D (dcl (tsH t))).length := by
                    rcases Nat.lt_or_ge i (dsR D (dcl (tsH t))).length with z | z
                    · exact z
                    · exfalso
                      rcases (rch_iff hdw rd).mp b5 with q | ⟨P, hP, q⟩
                      · exact hee q
                      · obtain ⟨j, hj, hj2⟩ := List.mem_iff_getElem.mp hP
                        rw [c2 j P (by omega) (by rw [List.getElem?_eq_getElem hj, hj2])] at q
                        cases q
                  obtain ⟨kp, q1, q2, q3⟩ := p2 i _ (List.getElem?_eq_getElem hin)
                  obtain ⟨pf, plt, pw⟩ := hpar _ (List.getElem_mem hin)
                  have hlv : mLv m TH kp := Or.inl q1
                  have hkl := mLv_lt t2 hTabH.2.2.2.2.1 hlv
                  obtain ⟨s2, sd⟩ := mRow_dcl hTabH hlv (by rw [q3]; exact flt_fo pf)
                  rw [q3] at s2 sd
                  have cto2 := cM_comesTo (d := d - 1) (by omega) b2.1 sd he
                  refine sM_20_31 ?_
                  rw [clp (by omega), r2, mul3, clp (by omega), q2, clp (by omega), s2]
                  refine ⟨inN htl (by decide), inN (by omega) (by decide), inN hkl (by decide), _, H, cto2, fun c => ?_, fun c => ?_⟩
                  · have hri : rch D 12 (dcl (dsR D (dcl (tsH t)))[i]) e = true := by
                      cases hz : rch D 12 (dcl (dsR D (dcl (tsH t)))[i]) e with
                      | true => rfl
                      | false => rw [hz] at c; exact absurd rfl c
                    rw [r2, mul3, clp (by omega), q2]
                    have hfp : fpT D (dcl (tsH t)) e = some (dsR D (dcl (tsH t)))[i] := by
                      unfold fpT
                      rw [List.find?_eq_some_iff_getElem]
                      exact ⟨by simpa using hri, i, hin, rfl, fun j hj => by
                        have := c2 j (dsR D (dcl (tsH t)))[j] hj (List.getElem?_eq_getElem (by omega))
                        simp [this]⟩
                    obtain ⟨pc1, pc2⟩ := PU_cls (D := D) (s := tsH t) pf
                    -- on the way to every point of it
                    have way : ∀ g, rch D 12 (dcl (PU D (tsH t) (dsR D (dcl (tsH t)))[i])) g = true → rch D 12 g e = true → suT D 12 (ts a) g = suT D 12 (PU D (tsH t) (dsR D (dcl (tsH t)))[i]) g := by
                      intro g g1 g2
                      rw [pc2] at g1
                      have hgl := rch_le hdw _ _ g (Nat.le_refl _) sd g1
                      rw [b6 g ((rch_iff hdw rd).mpr (Or.inr ⟨_, List.getElem_mem hin, g1⟩)) g2, suT_step hdw rd (by omega), fpT_way hdw rd hfp g1 g2]
                    have hself : suT D 12 (ts a) (dcl (PU D (tsH t) (dsR D (dcl (tsH t)))[i])) = some (PU D (tsH t) (dsR D (dcl (tsH t)))[i]) := by
                      rw [way _ ((rch_iff hdw (by omega)).mpr (Or.inl rfl)) (by rw [pc2]; exact hri)]
                      rw [suT_fuel hdw 12 13 _ _ (by omega) (by omega) (by omega), suT_eq, if_pos rfl]
                    obtain ⟨k2, h2, y1, ts2, T2, y2, y3, y4⟩ := cM_putIn (d := d - 1) (x := kp) (s := t) (by omega) b2.1 hlv b3 b4 hZb (fun _ n b j hn h1 h2 => by
                        rw [q3] at hn
                        obtain ⟨e', o', a', b', c', hC, -⟩ := pf
                        rw [hC] at hn
                        cases n with
                        | zero => omega
                        | succ n => simp [nA, tC, tA] at hn) (fun hrf u hu hfu => by
                        rw [q3] at hu
                        have hPUe : PU D (tsH t) (dsR D (dcl (tsH t)))[i] = puT D (tsH t) (dsR D (dcl (tsH t)))[i] := by unfold PU; rw [if_neg (by rw [hrf]; decide)]
                        by_cases hup : u = (dsR D (dcl (tsH t)))[i]
                        · rw [hup, ← hPUe]; exact hZs _ _ hself
                        · -- a closed part: it stays
                          have hcl : opT u = false := by
                            obtain ⟨e', o', a', b', c', hC, f0, f1, f2, f3⟩ := pf
                            rw [hC] at hup
                            rw [hC, subT_C] at hu
                            have arg : ∀ g, fltG (dcl (tsH t)) g → subT g u → opT u = false := by
                              intro g hg hs
                              rcases hg with hg | ⟨p, hg⟩
                              · exact opT_sub hs hg
                              · rw [hg, subT_G] at hs
                                rcases hs with hs | hs
                                · rw [hs] at hfu; simp [tG, foT] at hfu
                                · simp only [tV, subT] at hs
                                  rw [hs] at hfu; simp [foT] at hfu
                            rcases hu with z | z | z | z | z
                            · exact absurd z hup
                            · exact opT_sub z f0
                            · exact arg _ f1 z
                            · exact arg _ f2 z
                            · exact arg _ f3 z
                          rw [puT_cl u hcl]
                          obtain ⟨j, j1, j2, j3⟩ := sub_row hTabH kp kp u (Nat.le_refl _) hlv (by rw [q3]; exact hu) (by omega)
                          have hjm : j < m := by omega
                          have hj10 := mLv_fo hTabH j1 (by rw [j3]; omega)
                          rw [← j3, b2.2.2.1 j (Or.inl hjm)]
                          exact hZn j hjm hj10)
                    rw [q3] at y4
                    refine ⟨inN (by omega) (by decide), _, h2, y1, ?_⟩
                    refine ih k2 _ h2 ts2 T2 (by rw [y4, pc2]; omega) (b2.tr y2 (fun _ q => q) (fun _ q => q)) y3 (by rw [y4]; exact pc1) (by rw [y4, pc2]; exact hri) (fun g g1 g2 => ?_)
                    rw [y4] at g1 ⊢
                    exact way g g1 g2
                  · have hri : rch D 12 (dcl (dsR D (dcl (tsH t)))[i]) e = false := by
                      cases hz : rch D 12 (dcl (dsR D (dcl (tsH t)))[i]) e with
                      | false => rfl
                      | true => rw [hz] at c; exact absurd c (by decide)
                    rw [nI_1]
                    refine ih2 (i + 1) (by omega) (fun j P hj hP => ?_)
                    rcases Nat.lt_or_ge j i with z | z
                    · exact c2 j P z hP
                    · have : j = i := by omega
                      subst this
                      rw [List.getElem?_eq_getElem hin] at hP
                      rw [← Option.some.inj hP]; exact hri
              exact L2 _ 0 (Nat.le_refl _) (fun j P hj => by omega)
      exact L _ a none h ts T (Nat.le_refl _) (mEx.rf hI0) ha hac hr (fun _ _ _ => rfl)
    · rw [if_pos hr] at c
      exact absurd c (by decide)
