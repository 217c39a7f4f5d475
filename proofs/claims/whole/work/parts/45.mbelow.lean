def fL (c : Nat) : Prop := (1 ≤ c ∧ c ≤ 11) ∨ c = 21 ∨ c = 22 ∨ (25 ≤ c ∧ c ≤ 29)
/-- a CLASS TYPE that is not RAW has as many ARGUMENTS as there are PARAMETERS -/
theorem cls_cnt {D : DS} {nd d n : Nat} {o : Ty} {g : Nat → Ty} (hw : wfT D nd (tC d o (g 0) (g 1) (g 2))) (hr : rwT (dsP D) (tC d o (g 0) (g 1) (g 2)) = false) (hn : n ≤ 3) (hp : dsP D d ≤ 3) (h1 : ∀ i, i < n → g i ≠ tN) (h2 : ∀ i, n ≤ i → g i = tN) : n = dsP D d := by
  simp only [tC, wfT] at hw
  obtain ⟨-, -, ⟨-, -, -, hn2⟩, -⟩ := hw
  simp only [tC, rwT, Bool.or_eq_false_iff, Bool.and_eq_false_iff, decide_eq_false_iff_not] at hr
  rcases hn2 with ⟨z1, z2, z3⟩ | ⟨z1, z2, z3, z4, z5⟩
  · have n0 : n = 0 := by
      rcases Nat.lt_or_ge 0 n with q | q
      · exact absurd z1 (h1 0 q)
      · omega
    rcases hr.1 with q | q
    · omega
    · rw [z1] at q; exact absurd q (by decide)
  · rcases (show n = 0 ∨ n = 1 ∨ n = 2 ∨ n = 3 by omega) with rfl | rfl | rfl | rfl
    · exact absurd (h2 0 (by omega)) z2
    · have := z3.mp (h2 1 (by omega)); omega
    · have e1 : ¬ dsP D d ≤ 1 := fun q => h1 1 (by omega) (z3.mpr q)
      have := z4.mp (h2 2 (by omega)); omega
    · have e1 : ¬ dsP D d ≤ 2 := fun q => h1 2 (by omega) (z4.mpr q)
      omega
def goP (d : Nat) (Q : Option Value → ai_H → Prop) (X1 X2 : Int32) (k : Nat) (got : Int32) (H : ai_H) : Prop := ∃ (r1 : Int32) (h1 : ai_H), CM d 26 [.ref 0, .int (nI k), .int got] H (some (.int r1)) h1 ∧ ((¬ r1 = -1 → ∀ p5 p6 p7 p8 : Option Value, RM d 25 Q 26 [some (.ref 0), some (.int X1), some (.int X2), some (.int (nI k + (-1))), some (.int r1), p5, p6, p7, p8] [] h1) ∧ (r1 = -1 → vp_in (nI k + 1) 9 ∧ ∀ p5 p6 p7 p8 : Option Value, RM d 25 Q 26 [some (.ref 0), some (.int X1), some (.int X2), some (.int (nI k + 1)), some (.int r1), p5, p6, p7, p8] [] (ai_up h1 28 (Int32.toNatClampNeg (nI k + 1)) (-1))))
theorem hd_go {d : Nat} {Q : Option Value → ai_H → Prop} {X1 X2 x4 : Int32} {k i : Nat} {H : ai_H} (hk : k < 6) (hi : i < 10) (h28 : H 28 k = nI i) (hg : goP d Q X1 X2 k x4 H) (o5 o6 o7 o8 : Option Value) : RM d 25 Q 26 [some (.ref 0), some (.int X1), some (.int X2), some (.int (nI k)), some (.int x4), o5, o6, o7, o8] [] H := by
  obtain ⟨r1, h1, c1, c2, c3⟩ := hg
  refine sM_25_26 ⟨fun c => absurd c (gt0N (by omega)), fun _ => ⟨inN (by omega) (by decide), fun _ => ⟨r1, h1, c1, fun c => c2 c _ _ _ _, fun c => ⟨(c3 c).1, (c3 c).2 _ _ _ _⟩⟩, fun c => ?_⟩⟩
  rw [clp (by omega), h28] at c
  exact absurd c (n1N (by omega))
/-- what goes on when the frame at k is answered -/
def ktP (d : Nat) (Q : Option Value → ai_H → Prop) (X1 X2 : Int32) (Z : List Ty) (D : DS) (h : ai_H) (ts : Nat → Ty) (m T nd : Nat) (H : ai_H) (tsH : Nat → Ty) (TH k v : Nat) : Prop := ∀ (H' : ai_H) (ts' : Nat → Ty) (T' : Nat) (p5 p6 p7 p8 : Option Value), mEx Z D fL fP0 h ts m T nd H' ts' T' → TH ≤ T' → (∀ r, mLv m TH r → ts' r = tsH r) → (∀ c j, 26 ≤ c → c ≤ 29 → j < k → H' c j = H c j) → RM d 25 Q 26 [some (.ref 0), some (.int X1), some (.int X2), some (.int (nI k + (-1))), some (.int (nI v)), p5, p6, p7, p8] [] H'
theorem find_first {l : List Nat} {i v : Nat} (h : l[i]? = some v) (hv : v ≠ 0) (hz : ∀ j, j < i → l[j]? = some 0) : ((l.find? fun r => r != 0).getD 0) = v := by
  induction l generalizing i with
  | nil => simp at h
  | cons x l ih =>
    cases i with
    | zero =>
      have : x = v := by simpa using h
      subst this
      simp [hv]
    | succ i =>
      have hx : x = 0 := by simpa using hz 0 (by omega)
      subst hx
      rw [List.find?_cons]
      simp only [bne_self_eq_false]
      exact ih (by simpa using h) (fun j hj => by simpa using hz (j + 1) (by omega))
theorem find_none {l : List Nat} (hz : ∀ j, j < l.length → l[j]? = some 0) : ((l.find? fun r => r != 0).getD 0) = 0 := by
  have : (l.find? fun r => r != 0) = none := by
    rw [List.find?_eq_none]
    intro x hx
    obtain ⟨j, hj, hj2⟩ := List.mem_iff_getElem.mp hx
    have := hz j hj
    rw [List.getElem?_eq_getElem hj] at this
    rw [hj2] at this
    simp [Option.some.inj this]
  rw [this]; rfl
theorem maxI_0 {x y z : Nat} (h : x = 0 ∨ y = 0 ∨ z = 0) : maxI x y z = 0 := by unfold maxI; rw [if_pos h]
theorem maxI_le (x y z : Nat) : maxI x y z ≤ 2 := by
  unfold maxI
  split
  · omega
  · split <;> omega
theorem beS_le {D : DS} {be : Ty → Ty → Nat} {s b : Ty} : beS D be s b ≤ 2 := by
  unfold beS
  split
  · omega
  · split
    · omega
    · by_cases q : outT s = outT b
      · rw [if_pos q]; exact maxI_le _ _ _
      · rw [if_neg q]; omega
theorem find_le {l : List Nat} (h : ∀ x ∈ l, x ≤ 2) : ((l.find? fun r => r != 0).getD 0) ≤ 2 := by
  cases hf : l.find? fun r => r != 0 with
  | none => exact Nat.zero_le _
  | some x => exact h x (List.mem_of_find?_eq_some hf)
theorem beM_le {D : DS} {be : Ty → Ty → Nat} (h : ∀ a b, be a b ≤ 2) (a b : Ty) : beM D be a b ≤ 2 := by
  unfold beM
  split
  · refine find_le (fun x hx => ?_)
    obtain ⟨y, -, rfl⟩ := List.mem_map.mp hx
    exact h _ _
  · split
    · split
      · omega
      · exact h _ _
    · omega
  · split
    · split
      · omega
      · exact beS_le
    · omega
  · omega
theorem beT_le (D : DS) : ∀ (n : Nat) (a b : Ty), beT D n a b ≤ 2
  | 0, _, _ => Nat.zero_le _
  | n + 1, a, b => by
    by_cases q : a = b
    · rw [q, beT_eq]; omega
    · rw [beT_ne D n q]
      split
      · split <;> omega
      · split
        · omega
        · split
          · omega
          · by_cases q2 : b = obT
            · rw [if_pos q2]; omega
            · rw [if_neg q2]; exact beM_le (beT_le D n) a b
theorem suT_none {D : DS} {nd : Nat} (hdw : dWf D nd) {s : Ty} {d : Nat} (hs : dcl s < nd) (hr : rch D 12 (dcl s) d = false) : suT D 12 s d = none := by
  have hne : ¬ dcl s = d := fun q => by rw [(rch_iff hdw hs).mpr (Or.inl q)] at hr; cases hr
  rw [suT_step hdw hs hne]
  cases hf : fpT D (dcl s) d with
  | none => rfl
  | some P =>
    obtain ⟨q1, q2⟩ := fpT_some hf
    rw [(rch_iff hdw hs).mpr (Or.inr ⟨P, q1, q2⟩)] at hr
    cases hr
theorem suT_cls {D : DS} {nd : Nat} (hdw : dWf D nd) : ∀ (n : Nat) (t : Ty) (e : Nat) (s : Ty), dcl t ≤ n → dcl t < nd → foT t = 5 → suT D 12 t e = some s → foT s = 5 ∧ dcl s = e := by
  intro n
  induction n with
  | zero =>
    intro t e s h1 h2 h3 h4
    by_cases q : dcl t = e
    · rw [suT_fuel hdw 12 13 t e h2 (by have := hdw.2.1; omega) (by have := hdw.2.1; omega), suT_eq, if_pos q] at h4
      rw [← Option.some.inj h4]; exact ⟨h3, q⟩
    · rw [suT_step hdw h2 q] at h4
      cases hf : fpT D (dcl t) e with
      | none => rw [hf] at h4; cases h4
      | some P =>
        have := ((hdw.2.2.2.1 _ h2).2.2.1 P (fpT_some hf).1).2.1
        omega
  | succ n ih =>
    intro t e s h1 h2 h3 h4
    by_cases q : dcl t = e
    · rw [suT_fuel hdw 12 13 t e h2 (by have := hdw.2.1; omega) (by have := hdw.2.1; omega), suT_eq, if_pos q] at h4
      rw [← Option.some.inj h4]; exact ⟨h3, q⟩
    · rw [suT_step hdw h2 q] at h4
      cases hf : fpT D (dcl t) e with
      | none => rw [hf] at h4; cases h4
      | some P =>
        rw [hf] at h4
        obtain ⟨q1, q2, -⟩ := (hdw.2.2.2.1 _ h2).2.2.1 P (fpT_some hf).1
        obtain ⟨c1, c2⟩ := PU_cls (D := D) (s := t) q1
        exact ih (PU D t P) e s (by omega) (by omega) c1 h4
theorem row_out {h : ai_H} {ts : Nat → Ty} {m T nd x y : Nat} (hT : mTab h ts m T nd) (hx : mLv m T x) (hy : mLv m T y) (fx : foT (ts x) = 5) (fy : foT (ts y) = 5) : h 5 x = h 5 y ↔ outT (ts x) = outT (ts y) := by
  obtain ⟨t0, t1, t2, t3, t4, t5, hrow, hinj⟩ := hT
  have key : ∀ k, mLv m T k → foT (ts k) = 5 → (h 5 k = -1 ∧ outT (ts k) = tN) ∨ ∃ o, h 5 k = nI o ∧ mLv m T o ∧ outT (ts k) = ts o ∧ foT (ts o) = 5 := by
    intro k hk fk
    rcases (hrow k hk).1 with ⟨w1, w2, w3⟩ | ⟨w0, d2, p2, w1, -⟩ | ⟨w0, e2, w1, -⟩ | ⟨w0, d2, n2, g2, o2, w1, w2, w3, w4, w5, w6, w7, -⟩
    · rw [w2] at fk; simp only [tP, foT] at fk; split at fk
      · omega
      · split at fk <;> omega
    · rw [w1] at fk; simp [tV, foT] at fk
    · rw [w1] at fk; simp [tA, foT] at fk
    · have : outT (ts k) = o2 := by rw [w1]; rfl
      rw [this]
      rcases w7 with u | ⟨o, u1, u2, u3, u4, u5, u6⟩
      · exact Or.inl u
      · exact Or.inr ⟨o, u1, u3, u5, u6⟩
  rcases key x hx fx with ⟨a1, a2⟩ | ⟨o, a1, a2, a3, a4⟩
  · rcases key y hy fy with ⟨b1, b2⟩ | ⟨q, b1, b2, b3, b4⟩
    · rw [a1, a2, b1, b2]; exact ⟨fun _ => rfl, fun _ => rfl⟩
    · have := mLv_lt t2 t4 b2
      rw [a1, a2, b1, b3]
      exact ⟨fun z => absurd z (n1N' (by omega)), fun z => by rw [← z] at b4; simp [tN, foT] at b4⟩
  · have := mLv_lt t2 t4 a2
    rcases key y hy fy with ⟨b1, b2⟩ | ⟨q, b1, b2, b3, b4⟩
    · rw [a1, a3, b1, b2]
      exact ⟨fun z => absurd z (n1N (by omega)), fun z => by rw [z] at a4; simp [tN, foT] at a4⟩
    · have := mLv_lt t2 t4 b2
      rw [a1, a3, b1, b3, neN (by omega) (by omega)]
      exact ⟨fun z => by rw [z], fun z => hinj o q a2 b2 z⟩
/-- the ARGUMENTS of a row that is a CLASS TYPE and not RAW -/
theorem row_args {Z : List Ty} {D : DS} {h : ai_H} {ts : Nat → Ty} {m T nd k : Nat} (hI : mInv Z D h ts m T nd) (hk : mLv m T k) (fk : foT (ts k) = 5) (hr : rwT (dsP D) (ts k) = false) : h 6 k = nI (dsP D (dcl (ts k))) ∧ dsP D (dcl (ts k)) ≤ 3 ∧ (∀ i, i < dsP D (dcl (ts k)) → mAg h ts m T k (3 * k + i) (agT (ts k) i)) ∧ ∀ i, dsP D (dcl (ts k)) ≤ i → agT (ts k) i = tN := by
  have hw := mInv_wf hI hk
  obtain ⟨⟨⟨t0, t1, t2, t3, t4, t5, hrow, hinj⟩, -⟩, -, hdw, -⟩ := hI
  rcases (hrow k hk).1 with ⟨w1, w2, w3⟩ | ⟨w0, d2, p2, w1, -⟩ | ⟨w0, e2, w1, -⟩ | ⟨w0, d2, n2, g2, o2, w1, w2, w3, w4, w5, w6, w7, w8, w9⟩
  · rw [w2] at fk; simp only [tP, foT] at fk; split at fk
    · omega
    · split at fk <;> omega
  · rw [w1] at fk; simp [tV, foT] at fk
  · rw [w1] at fk; simp [tA, foT] at fk
  · have hd : dcl (ts k) = d2 := by rw [w1]; rfl
    have hp3 := (hdw.2.2.2.1 d2 w4).2.1
    have hg : ∀ i, i < n2 → g2 i ≠ tN := fun i hi => by
      rcases w8 i hi with ⟨-, -, e⟩ | ⟨_, _, _, _, _, _, _, _, e⟩ <;> rw [e] <;> simp [tY, tN, tG]
    rw [w1] at hw hr
    have hn := cls_cnt hw hr w6 hp3 hg w9
    have ha : ∀ i, agT (ts k) i = if i < 3 then g2 i else tN := by
      intro i
      rw [w1]
      match i with
      | 0 => rfl
      | 1 => rfl
      | 2 => rfl
      | i + 3 => rfl
    rw [hd, ← hn]
    refine ⟨w5, w6, fun i hi => ?_, fun i hi => ?_⟩
    · rw [ha, if_pos (by omega)]; exact w8 i hi
    · rw [ha]; split
      · exact w9 i hi
      · rfl
set_option maxHeartbeats 1000000 in
/-- goOn of a CLASS TYPE -/
theorem cM_goOnC {d : Nat} (hd : 2 ≤ d) {Z : List Ty} {D : DS} {h : ai_H} {ts : Nat → Ty} {m T nd k s b i w : Nat} {x2 : Int32} (hI : mInv Z D h ts m T nd) (hk : k < 8) (hs : mLv m T s) (hb : mLv m T b) (fs : foT (ts s) = 5) (fb : foT (ts b) = 5) (hdc : dcl (ts s) = dcl (ts b)) (rs : rwT (dsP D) (ts s) = false) (rb : rwT (dsP D) (ts b) = false) (h26 : h 26 k = nI s) (h27 : h 27 k = nI b) (h28 : h 28 k = nI i) (h29 : h 29 k = nI w) (hi : i ≤ dsP D (dcl (ts b))) (hx0 : ¬ x2 = 0) :
    ∃ r h', CM d 26 [.ref 0, .int (nI k), .int x2] h (some (.int r)) h' ∧ ((r = (if x2 = 2 then 2 else nI w) ∧ (∀ l, i ≤ l → l < 3 → kSk (agT (ts s) l) (agT (ts b) l)) ∧ ∀ c j, ¬ ((c = 28 ∨ c = 29) ∧ j = k) → h' c j = h c j) ∨
      (r = 0 ∧ (∃ j, j < 3 ∧ kSt (agT (ts s) j) (agT (ts b) j)) ∧ ∀ c j, ¬ ((c = 28 ∨ c = 29) ∧ j = k) → h' c j = h c j) ∨
      (r = -1 ∧ ∃ j A B h2, i ≤ j ∧ j < dsP D (dcl (ts b)) ∧ (∀ l, i ≤ l → l < j → kSk (agT (ts s) l) (agT (ts b) l)) ∧ mLv m T A ∧ mLv m T B ∧ kAs (agT (ts s) j) (agT (ts b) j) (ts A) (ts B) ∧ ((∃ w, agT (ts s) j = tG w (ts A)) ∧ (∃ w, agT (ts b) j = tG w (ts B)) ∨ (∃ w, agT (ts b) j = tG w (ts A)) ∧ (∃ w, agT (ts s) j = tG w (ts B))) ∧ h' = askH h2 k (nI (j + 1)) (nI A) (nI B) ∧ (∀ c j, ¬ ((c = 28 ∨ c = 29) ∧ j = k) → h2 c j = h c j) ∧ h2 29 k = (if x2 = 2 then 2 else nI w))) := by
  obtain ⟨as6, as3, asg, asn⟩ := row_args hI hs fs rs
  obtain ⟨ab6, ab3, abg, abn⟩ := row_args hI hb fb rb
  rw [hdc] at as6 as3 asg asn
  have hTab := hI.1.1
  have hsl := mLv_lt hTab.2.2.1 hTab.2.2.2.2.1 hs
  have hbl := mLv_lt hTab.2.2.1 hTab.2.2.2.2.1 hb
  obtain ⟨f1, -⟩ := mRow_fo hTab hs
  rw [fs] at f1
  suffices hss : ∃ r h', CM d 26 [.ref 0, .int (nI k), .int x2] h r h' ∧ ∃ r0, r = some (.int r0) ∧ ((r0 = (if x2 = 2 then 2 else nI w) ∧ (∀ l, i ≤ l → l < 3 → kSk (agT (ts s) l) (agT (ts b) l)) ∧ ∀ c j, ¬ ((c = 28 ∨ c = 29) ∧ j = k) → h' c j = h c j) ∨
      (r0 = 0 ∧ (∃ j, j < 3 ∧ kSt (agT (ts s) j) (agT (ts b) j)) ∧ ∀ c j, ¬ ((c = 28 ∨ c = 29) ∧ j = k) → h' c j = h c j) ∨
      (r0 = -1 ∧ ∃ j A B h2, i ≤ j ∧ j < dsP D (dcl (ts b)) ∧ (∀ l, i ≤ l → l < j → kSk (agT (ts s) l) (agT (ts b) l)) ∧ mLv m T A ∧ mLv m T B ∧ kAs (agT (ts s) j) (agT (ts b) j) (ts A) (ts B) ∧ ((∃ w, agT (ts s) j = tG w (ts A)) ∧ (∃ w, agT (ts b) j = tG w (ts B)) ∨ (∃ w, agT (ts b) j = tG w (ts A)) ∧ (∃ w, agT (ts s) j = tG w (ts B))) ∧ h' = askH h2 k (nI (j + 1)) (nI A) (nI B) ∧ (∀ c j, ¬ ((c = 28 ∨ c = 29) ∧ j = k) → h2 c j = h c j) ∧ h2 29 k = (if x2 = 2 then 2 else nI w))) by
    obtain ⟨r, h', hc, r0, rfl, q⟩ := hss
    exact ⟨r0, h', hc, q⟩
  refine iM (by omega) rfl ?_
  -- the row's own picture with the worst answer noted
  have go : ∀ (xw : Int32) (o5 o6 : Option Value), xw = (if x2 = 2 then 2 else nI w) → RM (d - 1) 26 (fun r h' => ∃ r0, r = some (.int r0) ∧ ((r0 = (if x2 = 2 then 2 else nI w) ∧ (∀ l, i ≤ l → l < 3 → kSk (agT (ts s) l) (agT (ts b) l)) ∧ ∀ c j, ¬ ((c = 28 ∨ c = 29) ∧ j = k) → h' c j = h c j) ∨
      (r0 = 0 ∧ (∃ j, j < 3 ∧ kSt (agT (ts s) j) (agT (ts b) j)) ∧ ∀ c j, ¬ ((c = 28 ∨ c = 29) ∧ j = k) → h' c j = h c j) ∨
      (r0 = -1 ∧ ∃ j A B h2, i ≤ j ∧ j < dsP D (dcl (ts b)) ∧ (∀ l, i ≤ l → l < j → kSk (agT (ts s) l) (agT (ts b) l)) ∧ mLv m T A ∧ mLv m T B ∧ kAs (agT (ts s) j) (agT (ts b) j) (ts A) (ts B) ∧ ((∃ w, agT (ts s) j = tG w (ts A)) ∧ (∃ w, agT (ts b) j = tG w (ts B)) ∨ (∃ w, agT (ts b) j = tG w (ts A)) ∧ (∃ w, agT (ts s) j = tG w (ts B))) ∧ h' = askH h2 k (nI (j + 1)) (nI A) (nI B) ∧ (∀ c j, ¬ ((c = 28 ∨ c = 29) ∧ j = k) → h2 c j = h c j) ∧ h2 29 k = (if x2 = 2 then 2 else nI w)))) 155 [some (.ref 0), some (.int (nI k)), some (.int x2), some (.int (nI s)), some (.int (nI b)), o5, o6] [] (ai_up h 29 k xw) := by
    intro xw o5 o6 hxw
    have e : ∀ c j, c ≤ 11 → ai_up h 29 k xw c j = h c j := fun c j hc => by rw [up_k _ _ (by omega)]
    have hT1 : mTab (ai_up h 29 k xw) ts m T nd := mTab_eq (fun c j q => e c j (by omega)) hTab
    have off : ∀ (h' : ai_H), (∀ c j, ¬ (c = 28 ∧ j = k) → h' c j = ai_up h 29 k xw c j) → ∀ c j, ¬ ((c = 28 ∨ c = 29) ∧ j = k) → h' c j = h c j := by
      intro h' hh c j hcj
      rw [hh c j (fun q => hcj ⟨Or.inl q.1, q.2⟩), up_e, if_neg (fun q => hcj ⟨Or.inr q.1, q.2⟩)]
    have tr : ∀ q l g, mAg h ts m T q l g → mAg (ai_up h 29 k xw) ts m T q l g := by
      intro q l g hg
      rcases hg with ⟨z1, z2, z3⟩ | ⟨ww, a, z1, z2, z3, z4⟩
      · exact Or.inl ⟨by rw [e 8 _ (by omega), z1], by rw [e 9 _ (by omega), z2], z3⟩
      · exact Or.inr ⟨ww, a, z1, by rw [e 8 _ (by omega), z2], by rw [e 9 _ (by omega), z3], z4⟩
    refine cM_goOnC_l (d := d) (h0 := ai_up h 29 k xw) (n := dsP D (dcl (ts b))) (gs := agT (ts s)) (gb := agT (ts b)) (xw := xw) (x1 := 0) hd hT1 hk hs hb ab3 (by rw [e 6 _ (by omega), ab6]) (fun l hl => tr _ _ _ (asg l hl)) (fun l hl => tr _ _ _ (abg l hl)) (up_s _ _ _ _) _ i o5 o6 _ (Nat.le_refl _) hi (fun _ _ _ => rfl) (by rw [up_k _ _ (by decide), h28]) (fun hsk h' hh => ?_) (fun j z1 z2 z3 z4 h' hh => ?_) (fun j A B z1 z2 z3 z4 z5 z6 z7 h' hh => ?_)
    · refine ⟨xw, rfl, Or.inl ⟨hxw, fun l l1 l2 => ?_, off h' hh⟩⟩
      rcases Nat.lt_or_ge l (dsP D (dcl (ts b))) with y | y
      · exact hsk l l1 y
      · intro be; rw [abn l y]; rfl
    · exact ⟨0, rfl, Or.inr (Or.inl ⟨rfl, ⟨j, by omega, z4⟩, off h' hh⟩)⟩
    · exact ⟨-1, rfl, Or.inr (Or.inr ⟨rfl, j, A, B, h', z1, z2, z3, z4, z5, z6, z7, rfl, off h' hh, by rw [hh 29 k (by omega), up_s, hxw]⟩)⟩
  refine sM_26_0 ?_
  rw [clp (by omega), h26, h27, clp (by omega), f1]
  refine ⟨inN (by omega) (by decide), inN hsl (by decide), fun _ => ⟨fun _ => ⟨fun _ => ⟨fun c => go _ _ _ (by rw [if_neg c, h29]), fun c => go _ _ _ (by rw [if_pos c])⟩, fun c => absurd c hx0⟩, fun c => absurd c (by decide)⟩, fun c => absurd c (by decide)⟩
theorem cM_goOnC0 {d : Nat} (hd : 2 ≤ d) {h : ai_H} {ts : Nat → Ty} {m T nd k s : Nat} (hT : mTab h ts m T nd) (hk : k < 8) (hs : mLv m T s) (fs : foT (ts s) = 5) (h26 : h 26 k = nI s) : CM d 26 [.ref 0, .int (nI k), .int 0] h (some (.int 0)) h := by
  have hsl := mLv_lt hT.2.2.1 hT.2.2.2.2.1 hs
  obtain ⟨f1, -⟩ := mRow_fo hT hs
  rw [fs] at f1
  refine iMe (by omega) rfl (sM_26_0 ?_)
  rw [clp (by omega), h26, clp (by omega), f1]
  exact ⟨inN (by omega) (by decide), inN hsl (by decide), fun _ => ⟨fun _ => ⟨fun c => absurd rfl c, fun _ => ⟨rfl, rfl⟩⟩, fun c => absurd c (by decide)⟩, fun c => absurd c (by decide)⟩
/-- other pictures of the frames alone -/
theorem mEx_off {Z : List Ty} {D : DS} {h h1 h2 : ai_H} {ts ts1 : Nat → Ty} {m T T1 nd : Nat} (a : mEx Z D fL fP0 h ts m T nd h1 ts1 T1) (e : ∀ c j, ¬ (26 ≤ c ∧ c ≤ 29) → h2 c j = h1 c j) : mEx Z D fL fP0 h ts m T nd h2 ts1 T1 := by
  obtain ⟨a1, a2, a3, a4⟩ := a
  refine ⟨mInv_out a1 (mTb_eq (e 0 0 (by omega)) (e 0 1 (by omega)) (fun c j q1 q2 => e c j (by omega)) a1.1) ⟨fun c j q1 q2 => e c j (by unfold fD at q2; omega), fun j _ => e 0 j (by omega)⟩ (fun _ _ => rfl), a2, a3, ⟨fun c j q1 q2 => by rw [e c j (by unfold fL at q2; omega)]; exact a4.1 c j q1 q2, fun j hj => by rw [e 0 j (by omega)]; exact a4.2 j hj⟩⟩
theorem maxI_1 {f : Nat → Nat} (h : ∀ j, j < 3 → f j ≠ 0) (h2 : ∀ j, j < 3 → f j ≠ 2) : maxI (f 0) (f 1) (f 2) = 1 := by
  unfold maxI
  rw [if_neg, if_neg]
  · rintro (q | q | q)
    · exact h2 0 (by omega) q
    · exact h2 1 (by omega) q
    · exact h2 2 (by omega) q
  · rintro (q | q | q)
    · exact h 0 (by omega) q
    · exact h 1 (by omega) q
    · exact h 2 (by omega) q
theorem maxI_2 {f : Nat → Nat} (h : ∀ j, j < 3 → f j ≠ 0) (h2 : ∃ j, j < 3 ∧ f j = 2) : maxI (f 0) (f 1) (f 2) = 2 := by
  unfold maxI
  rw [if_neg, if_pos]
  · obtain ⟨j, hj, e⟩ := h2
    rcases (show j = 0 ∨ j = 1 ∨ j = 2 by omega) with rfl | rfl | rfl
    · exact Or.inl e
    · exact Or.inr (Or.inl e)
    · exact Or.inr (Or.inr e)
  · rintro (q | q | q)
    · exact h 0 (by omega) q
    · exact h 1 (by omega) q
    · exact h 2 (by omega) q
theorem maxI_z {f : Nat → Nat} (h : ∃ j, j < 3 ∧ f j = 0) : maxI (f 0) (f 1) (f 2) = 0 := by
  obtain ⟨j, hj, e⟩ := h
  rcases (show j = 0 ∨ j = 1 ∨ j = 2 by omega) with rfl | rfl | rfl
  · exact maxI_0 (Or.inl e)
  · exact maxI_0 (Or.inr (Or.inl e))
  · exact maxI_0 (Or.inr (Or.inr e))
set_option maxHeartbeats 4000000 in
theorem cM_bel {d : Nat} (hd : 8 ≤ d) {Z : List Ty} {D : DS} {h : ai_H} {ts : Nat → Ty} {m T nd : Nat} {Q : Option Value → ai_H → Prop} {X1 X2 : Int32} {G : Ty → Prop}
    (hG1 : ∀ t, G t → foT t = 5 → ∀ f s, suT D 12 t f = some s → s ∈ Z ∧ ∀ i w A, i < 3 → agT s i = tG w A → G A) (hG2 : ∀ t, G t → foT t = 5 → ∀ i w A, i < 3 → agT t i = tG w A → G A) (hG3 : ∀ t, G (tA t) → G t) (hG4 : ∀ e p B, G (tV e p) → B ∈ dsB D e p → G B)
    (hZb : ∀ e, e < nd → brT (dsO D) 12 e ∈ Z) (hZn : ∀ b, b < m → 10 ≤ b → ts b ∈ Z) (hm11 : 11 ≤ m) :
    ∀ (n k a b : Nat) (H : ai_H) (tsH : Nat → Ty) (TH : Nat) (x4 : Int32) (o5 o6 o7 o8 : Option Value), k + n = 5 → mEx Z D fL fP0 h ts m T nd H tsH TH → mLv m TH a → mLv m TH b → G (tsH a) → G (tsH b) → H 26 k = nI a → H 27 k = nI b → H 28 k = -1 → ktP d Q X1 X2 Z D h ts m T nd H tsH TH k (beT D n (tsH a) (tsH b)) →
      RM d 25 Q 26 [some (.ref 0), some (.int X1), some (.int X2), some (.int (nI k)), some (.int x4), o5, o6, o7, o8] [] H := by
  intro n
  induction n with
  | zero =>
    intro k a b H tsH TH x4 o5 o6 o7 o8 hkn hx ha hb ga gb h26 h27 h28 kt
    have hk5 : k = 5 := by omega
    subst hk5
    refine sM_25_26 ⟨fun c => absurd c (by decide), fun _ => ⟨inN (by omega) (by decide), fun c => absurd ?_ c, fun _ => ⟨fun c => absurd rfl c, fun _ => ?_⟩⟩⟩
    · rw [clp (by omega), h28]
    · exact kt H tsH TH _ _ _ _ hx (Nat.le_refl _) (fun _ _ => rfl) (fun _ _ _ _ _ => rfl)
  | succ n ih =>
    intro k a b H tsH TH x4 o5 o6 o7 o8 hkn hx ha hb ga gb h26 h27 h28 kt
    have hTab := hx.1.1.1
    have hdw := hx.1.2.2.1
    obtain ⟨t0, t1, t2, t3, t4, t5, hrow, hinj⟩ := id hTab
    have hal := mLv_lt t2 t4 ha
    have hbl := mLv_lt t2 t4 hb
    -- a frame one deeper is asked, and its answer comes back to the frame at k
    have sub : ∀ (H1 : ai_H) (ts1 : Nat → Ty) (T1 i A B : Nat) (p5 p6 p7 p8 : Option Value) (y : Int32), i < 9 → mEx Z D fL fP0 h ts m T nd H1 ts1 T1 → mLv m T1 A → mLv m T1 B → G (ts1 A) → G (ts1 B) → (∀ (H2 : ai_H) (ts2 : Nat → Ty) (T2 : Nat), mEx Z D fL fP0 h ts m T nd H2 ts2 T2 → T1 ≤ T2 → (∀ r, mLv m T1 r → ts2 r = ts1 r) → (∀ c j, 26 ≤ c → c ≤ 29 → j ≤ k → ¬ (c = 28 ∧ j = k) → H2 c j = H1 c j) → H2 28 k = nI (i + 1) → goP d Q X1 X2 k (nI (beT D n (ts1 A) (ts1 B))) H2) →
        RM d 25 Q 26 [some (.ref 0), some (.int X1), some (.int X2), some (.int (nI k + 1)), some (.int y), p5, p6, p7, p8] [] (ai_up (askH H1 k (nI (i + 1)) (nI A) (nI B)) 28 (Int32.toNatClampNeg (nI k + 1)) (-1)) := by
      intro H1 ts1 T1 i A B p5 p6 p7 p8 y hi9 hx1 hA hB gA gB hgo
      rw [nI_1, clp (by omega)]
      have hx2 : mEx Z D fL fP0 h ts m T nd (ai_up (askH H1 k (nI (i + 1)) (nI A) (nI B)) 28 (k + 1) (-1)) ts1 T1 :=
        mEx.up (mEx.up (mEx.up (mEx.up hx1 _ (Or.inr ⟨by omega, by unfold fL; omega⟩)) _ (Or.inr ⟨by omega, by unfold fL; omega⟩)) _ (Or.inr ⟨by omega, by unfold fL; omega⟩)) _ (Or.inr ⟨by omega, by unfold fL; omega⟩)
      refine ih (k + 1) A B _ ts1 T1 y _ _ _ _ (by omega) hx2 hA hB gA gB ?_ ?_ (up_s _ _ _ _) ?_
      · unfold askH; simp [up_e]
      · unfold askH; simp [up_e]
      · intro H2 ts2 T2 q5 q6 q7 q8 z1 z2 z3 z4
        rw [pk_m1]
        have e28 : H2 28 k = nI (i + 1) := by
          rw [z4 28 k (by omega) (by omega) (by omega)]
          unfold askH; simp [up_e]
        refine hd_go (by omega) (by omega) e28 (hgo H2 ts2 T2 z1 z2 z3 (fun c j y1 y2 y3 y4 => ?_) e28) _ _ _ _
        rw [z4 c j y1 y2 (by omega)]
        unfold askH
        rw [up_e, if_neg (by omega), up_e, if_neg (by omega), up_e, if_neg (by omega), up_e, if_neg (by omega)]
    obtain ⟨r, c1, c2⟩ := cM_atOnce (d := d) (by omega) hx.1 ha hb
    refine sM_25_26 ⟨fun c => absurd c (gt0N (by omega)), fun _ => ⟨inN (by omega) (by decide), fun c => absurd ?_ c, fun _ => ⟨fun _ => ⟨r, H, by rw [clp (by omega), h26, h27]; exact c1, fun cr => ?_, fun cr => ?_⟩, fun c => ?_⟩⟩⟩
    · rw [clp (by omega), h28]
    · rcases c2 with ⟨v, v1, rfl, v3⟩ | ⟨v1, -⟩
      · rw [← v3 n]
        exact kt H tsH TH _ _ _ _ hx (Nat.le_refl _) (fun _ _ => rfl) (fun _ _ _ _ _ => rfl)
      · exact absurd v1 cr
    · rcases c2 with ⟨v, v1, v2, v3⟩ | ⟨-, c2⟩
      · rw [v2] at cr; exact absurd cr (n1N (by omega))
      · rw [clp (by omega), h26, h27]
        refine ⟨inN hal (by decide), ?_⟩
        rw [clp (by omega), clp (by omega), cr]
        obtain ⟨fa1, fa2, -, -⟩ := mRow_fo hTab ha
        obtain ⟨fb1, fb2, -, -⟩ := mRow_fo hTab hb
        -- the frame begun
        have hx0 : mEx Z D fL fP0 h ts m T nd (ai_up (ai_up H 28 k 0) 29 k 1) tsH TH := mEx.up (mEx.up hx _ (Or.inr ⟨by omega, by unfold fL; omega⟩)) _ (Or.inr ⟨by omega, by unfold fL; omega⟩)
        have k9 : vp_in (nI k + 1) 9 := by rw [nI_1]; exact inN (by omega) (by decide)
        rcases c2 with ⟨e, p, hat, hne, hbe⟩ | ⟨xe, ye, hat, hbt, h4a, hxe, h4b, hye, h1a, hbe⟩ | ⟨hfa, hfb, hbe⟩
        · -- a VARIABLE
          have hfa : foT (tsH a) = 3 := by rw [hat]; rfl
          rw [hfa] at fa1
          have he : e < nd := by
            have := mInv_wf hx.1 ha
            rw [hat] at this
            simp only [tV, wfT] at this
            exact this.1
          have hbl3 := ((hdw.2.2.2.1 e he).2.2.2.2 p).1
          have LV : ∀ (f i : Nat) (H1 : ai_H) (ts1 : Nat → Ty) (T1 : Nat) (x2 : Int32), (dsB D e p).length - i ≤ f → i ≤ (dsB D e p).length → x2 ≤ 0 → mEx Z D fL fP0 h ts m T nd H1 ts1 T1 → TH ≤ T1 → (∀ r, mLv m TH r → ts1 r = tsH r) → (∀ c j, 26 ≤ c → c ≤ 29 → j < k → H1 c j = H c j) → H1 26 k = nI a → H1 27 k = nI b → H1 28 k = nI i → (∀ j B, j < i → (dsB D e p)[j]? = some B → beT D n B (tsH b) = 0) → goP d Q X1 X2 k x2 H1 := by
            intro f
            induction f with
            | zero =>
              intro i H1 ts1 T1 x2 a1 a2 a3 a4 a5 a6 a7 a8 a9 a10 a11
              have hi : i = (dsB D e p).length := by omega
              rcases cM_goOnV (d := d) (by omega) a4.1 (by omega) (lv_mono a5 ha) (by rw [a6 a ha]; exact hat) a8 a9 a10 a2 a3 with ⟨-, q⟩ | ⟨B, r, q1, -⟩
              · refine ⟨0, H1, q, fun _ p5 p6 p7 p8 => ?_, fun c => absurd c (by decide)⟩
                have hv : beT D (n + 1) (tsH a) (tsH b) = 0 := by
                  rw [hbe n]
                  refine find_none (fun j hj => ?_)
                  rw [List.length_map] at hj
                  rw [List.getElem?_map, List.getElem?_eq_getElem hj]
                  exact congrArg some (a11 j _ (by omega) (List.getElem?_eq_getElem hj))
                have := kt H1 ts1 T1 p5 p6 p7 p8 a4 a5 a6 a7
                rw [hv] at this
                exact this
              · have := (List.getElem?_eq_some_iff.mp q1).1; omega
            | succ f ihf =>
              intro i H1 ts1 T1 x2 a1 a2 a3 a4 a5 a6 a7 a8 a9 a10 a11
              rcases cM_goOnV (d := d) (by omega) a4.1 (by omega) (lv_mono a5 ha) (by rw [a6 a ha]; exact hat) a8 a9 a10 a2 a3 with ⟨hi, q⟩ | ⟨B, r, q1, q2, q3, q4⟩
              · exact ihf i H1 ts1 T1 x2 (by omega) a2 a3 a4 a5 a6 a7 a8 a9 a10 a11
              · have hin := (List.getElem?_eq_some_iff.mp q1).1
                refine ⟨-1, _, q4, fun c => absurd rfl c, fun _ => ⟨k9, fun p5 p6 p7 p8 => ?_⟩⟩
                refine sub H1 ts1 T1 i r b p5 p6 p7 p8 (-1) (by omega) a4 (Or.inl q2) (lv_mono a5 hb) (by rw [q3]; exact hG4 e p B (by rw [← hat]; exact ga) (List.mem_of_getElem? q1)) (by rw [a6 b hb]; exact gb) (fun H2 ts2 T2 z1 z2 z3 z4 z5 => ?_)
                rw [q3, a6 b hb]
                have b5 : TH ≤ T2 := by omega
                have b6 : ∀ r, mLv m TH r → ts2 r = tsH r := fun r hr => by rw [z3 r (lv_mono a5 hr), a6 r hr]
                have b7 : ∀ c j, 26 ≤ c → c ≤ 29 → j < k → H2 c j = H c j := fun c j y1 y2 y3 => by rw [z4 c j y1 y2 (by omega) (by omega), a7 c j y1 y2 y3]
                have b8 : H2 26 k = nI a := by rw [z4 26 k (by omega) (by omega) (by omega) (by omega), a8]
                have b9 : H2 27 k = nI b := by rw [z4 27 k (by omega) (by omega) (by omega) (by omega), a9]
                by_cases hv : beT D n B (tsH b) = 0
                · rw [hv]
                  refine ihf (i + 1) H2 ts2 T2 _ (by omega) (by omega) (by decide) z1 b5 b6 b7 b8 b9 z5 (fun j B' hj hB' => ?_)
                  rcases Nat.lt_or_ge j i with y | y
                  · exact a11 j B' y hB'
                  · have : j = i := by omega
                    rw [this, q1] at hB'
                    rw [← Option.some.inj hB']; exact hv
                · have hfin : beT D (n + 1) (tsH a) (tsH b) = beT D n B (tsH b) := by
                    rw [hbe n]
                    refine find_first (i := i) (by rw [List.getElem?_map, q1]; rfl) hv (fun j hj => ?_)
                    have hjl : j < (dsB D e p).length := by omega
                    rw [List.getElem?_map, List.getElem?_eq_getElem hjl]
                    exact congrArg some (a11 j _ hj (List.getElem?_eq_getElem hjl))
                  have hle2 := beT_le D n B (tsH b)
                  have hx2 : ¬ nI (beT D n B (tsH b)) ≤ 0 := by
                    rw [show (0 : Int32) = nI 0 from rfl, leN (by omega) (by omega)]; omega
                  refine ⟨_, H2, cM_goOnV2 (d := d) (by omega) z1.1.1.1 (by omega) (lv_mono b5 ha) (by rw [b6 a ha]; exact hat) b8 hx2, fun _ p5 p6 p7 p8 => ?_, fun c => absurd c (n1N (by omega))⟩
                  have := kt H2 ts2 T2 p5 p6 p7 p8 z1 b5 b6 b7
                  rw [hfin] at this
                  exact this
          refine ⟨fun _ => ?_, fun c => by rw [fa1] at c; exact absurd c (by decide)⟩
          obtain ⟨r1, h1, g1, g2, g3⟩ := LV _ 0 (ai_up (ai_up H 28 k 0) 29 k 1) tsH TH (-1) (Nat.le_refl _) (Nat.zero_le _) (by decide) hx0 (Nat.le_refl _) (fun _ _ => rfl) (fun c j y1 y2 y3 => by rw [up_e, if_neg (by omega), up_e, if_neg (by omega)]) (by rw [up_k _ _ (by decide), up_k _ _ (by decide), h26]) (by rw [up_k _ _ (by decide), up_k _ _ (by decide), h27]) (by rw [up_k _ _ (by decide), up_s]; rfl) (fun j B hj => by omega)
          exact ⟨r1, h1, g1, fun c => g2 c _ _ _ _, fun c => ⟨(g3 c).1, (g3 c).2 _ _ _ _⟩⟩
        · -- an ARRAY
          have hfa : foT (tsH a) = 4 := by rw [hat]; rfl
          have hgo : goP d Q X1 X2 k (-1) (ai_up (ai_up H 28 k 0) 29 k 1) := by
            refine ⟨-1, _, cM_goOnA (d := d) (i := 0) (by omega) hx0.1.1.1 (by omega) ha hb (by rw [up_k _ _ (by decide), up_k _ _ (by decide), h1a]) (by rw [up_k _ _ (by decide), up_k _ _ (by decide), h26]) (by rw [up_k _ _ (by decide), up_k _ _ (by decide), h27]) (by rw [up_k _ _ (by decide), up_s]; rfl) (by rw [up_k _ _ (by decide), up_k _ _ (by decide), h4a]) (by rw [up_k _ _ (by decide), up_k _ _ (by decide), h4b]), fun c => absurd rfl c, fun _ => ⟨k9, fun p5 p6 p7 p8 => ?_⟩⟩
            have gx : G (tsH xe) := hG3 _ (by rw [← hat]; exact ga)
            have gy : G (tsH ye) := hG3 _ (by rw [← hbt]; exact gb)
            refine sub _ tsH TH 0 xe ye p5 p6 p7 p8 (-1) (by omega) hx0 hxe hye gx gy (fun H2 ts2 T2 z1 z2 z3 z4 z5 => ?_)
            have hle2 := beT_le D n (tsH xe) (tsH ye)
            have b8 : H2 26 k = nI a := by rw [z4 26 k (by omega) (by omega) (by omega) (by omega), up_k _ _ (by decide), up_k _ _ (by decide), h26]
            have f2 := (mRow_fo z1.1.1.1 (lv_mono z2 ha)).1
            rw [z3 a ha, hfa] at f2
            refine ⟨_, H2, cM_goOnA2 (d := d) (by omega) z1.1.1.1 (by omega) (lv_mono z2 ha) f2 b8 (n1N (by omega)), fun _ p5 p6 p7 p8 => ?_, fun c => absurd c (n1N (by omega))⟩
            have := kt H2 ts2 T2 p5 p6 p7 p8 z1 z2 z3 (fun c j y1 y2 y3 => by rw [z4 c j y1 y2 (by omega) (by omega), up_e, if_neg (by omega), up_e, if_neg (by omega)])
            rw [hbe n] at this
            exact this
          obtain ⟨r1, h1, g1, g2, g3⟩ := hgo
          exact ⟨fun _ => ⟨r1, h1, g1, fun c => g2 c _ _ _ _, fun c => ⟨(g3 c).1, (g3 c).2 _ _ _ _⟩⟩, fun c => by rw [h1a] at c; exact absurd c (by decide)⟩
        · -- CLASS TYPES
          obtain ⟨rb2, rbd⟩ := mRow_dcl hTab hb hfb
          obtain ⟨-, rad⟩ := mRow_dcl hTab ha hfa
          rw [hfa] at fa1
          refine ⟨fun c => absurd (by rw [fa1]; rfl) c, fun _ => ⟨inN hbl (by decide), ?_⟩⟩
          rw [rb2]
          rcases cM_superOf (d := d) (by omega) hx.1 ha hfa rbd hZb (fun q hq hq10 => by rw [hx.2.2.1 q (Or.inl hq)]; exact hZn q hq hq10) (fun f s hs => (hG1 _ ga hfa f s hs).1) with ⟨hr, cs⟩ | ⟨hr, s, ks, h4, hsu, cs, ts4, T4, hx4, hks, hst⟩
          · refine ⟨-1, H, cs, fun _ => ⟨fun c => absurd c (by decide), fun _ => ?_⟩, fun c => absurd m1lt c⟩
            have hv : beT D (n + 1) (tsH a) (tsH b) = 0 := by rw [hbe n, suT_none hdw rad hr]
            have := kt (ai_up H 26 k (nI a)) tsH TH (some (.int (nI a))) (some (.int (nI b))) (some (.int (-1))) (some (.int 0)) (mEx.up hx _ (Or.inr ⟨by omega, by unfold fL; omega⟩)) (Nat.le_refl _) (fun _ _ => rfl) (fun c j y1 y2 y3 => by rw [up_e, if_neg (by omega)])
            rw [hv] at this
            exact this
          · have hx' : mEx Z D fL fP0 h ts m T nd h4 ts4 T4 := hx.tr hx4 (fun c q => by unfold fI at q; unfold fL; omega) (fun _ q => q)
            have f4 : ∀ c j, 26 ≤ c → c ≤ 29 → h4 c j = H c j := fun c j y1 y2 => hx4.2.2.2.1 c j (by omega) (by unfold fI; omega)
            have hb4 := lv_mono hx4.2.1 hb
            have eb : ts4 b = tsH b := hx4.2.2.1 b hb
            have hT4 := hx'.1.1.1
            have hksl := mLv_lt hT4.2.2.1 hT4.2.2.2.2.1 hks
            -- the SUPER is of b's DECLARATION
            have hsc : foT s = 5 ∧ dcl s = dcl (tsH b) := suT_cls hdw _ (tsH a) _ s (Nat.le_refl _) rad hfa hsu
            have crb := cM_isRaw (d := d) (by omega) hx'.1 hb4
            have crs := cM_isRaw (d := d) (by omega) hx'.1 hks
            rw [eb] at crb
            rw [hst] at crs
            have hval : beT D (n + 1) (tsH a) (tsH b) = beS D (beT D n) s (tsH b) := by rw [hbe n, hsu]
            have hout := row_out hT4 hks hb4 (by rw [hst]; exact hsc.1) (by rw [eb]; exact hfb)
            rw [hst, eb] at hout
            have hxs : mEx Z D fL fP0 h ts m T nd (ai_up h4 26 k (nI ks)) ts4 T4 := mEx.up hx' _ (Or.inr ⟨by omega, by unfold fL; omega⟩)
            have fin : ∀ (v : Nat) (p5 p6 p7 p8 : Option Value), beT D (n + 1) (tsH a) (tsH b) = v → RM d 25 Q 26 [some (.ref 0), some (.int X1), some (.int X2), some (.int (nI k + (-1))), some (.int (nI v)), p5, p6, p7, p8] [] (ai_up h4 26 k (nI ks)) := by
              intro v p5 p6 p7 p8 hv
              rw [← hv]
              exact kt _ ts4 T4 p5 p6 p7 p8 hxs hx4.2.1 hx4.2.2.1 (fun c j y1 y2 y3 => by rw [up_e, if_neg (by omega), f4 c j y1 y2])
            have raw1 : rwT (dsP D) (tsH b) = true → beT D (n + 1) (tsH a) (tsH b) = 1 := fun q => by rw [hval]; unfold beS; rw [if_pos q]
            have raw2 : ¬ rwT (dsP D) (tsH b) = true → rwT (dsP D) s = true → beT D (n + 1) (tsH a) (tsH b) = 2 := fun q q2 => by rw [hval]; unfold beS; rw [if_neg q, if_pos q2]
            have raw3 : ¬ rwT (dsP D) (tsH b) = true → ¬ rwT (dsP D) s = true → outT s ≠ outT (tsH b) → beT D (n + 1) (tsH a) (tsH b) = 0 := fun q q2 q3 => by rw [hval]; unfold beS; rw [if_neg q, if_neg q2, if_neg q3]
            have p01 : ∀ {c : Prop} [Decidable c], (if c then (1 : Int32) else 0) = 0 → ¬ c := fun hh q => by rw [if_pos q] at hh; exact absurd hh (by decide)
            have p10 : ∀ {c : Prop} [Decidable c], ¬ (if c then (1 : Int32) else 0) = 0 → c := fun {c} _ hh => Classical.byContradiction fun q => hh (by rw [if_neg q])
            have go0 : ¬ rwT (dsP D) (tsH b) = true → ¬ rwT (dsP D) s = true → outT s = outT (tsH b) → goP d Q X1 X2 k (-1) (ai_up (ai_up (ai_up h4 26 k (nI ks)) 28 k 0) 29 k 1) := by
              intro nrb nrs hoe
              have hrb : rwT (dsP D) (tsH b) = false := by simpa using nrb
              have hrs : rwT (dsP D) s = false := by simpa using nrs
              have hV : beT D (n + 1) (tsH a) (tsH b) = maxI (inT (beT D n) (agT s 0) (agT (tsH b) 0)) (inT (beT D n) (agT s 1) (agT (tsH b) 1)) (inT (beT D n) (agT s 2) (agT (tsH b) 2)) := by
                rw [hval]; unfold beS; rw [if_neg nrb, if_neg nrs, if_pos hoe]
              obtain ⟨-, hp3, -, -⟩ := row_args hx'.1 hb4 (by rw [eb]; exact hfb) (by rw [eb]; exact hrb)
              rw [eb] at hp3
              have LC : ∀ (f i : Nat) (H1 : ai_H) (ts1 : Nat → Ty) (T1 : Nat) (x2 : Int32) (w : Nat), dsP D (dcl (tsH b)) - i ≤ f → i ≤ dsP D (dcl (tsH b)) → mEx Z D fL fP0 h ts m T nd H1 ts1 T1 → T4 ≤ T1 → (∀ r, mLv m T4 r → ts1 r = ts4 r) → (∀ c j, 26 ≤ c → c ≤ 29 → j < k → H1 c j = H c j) → H1 26 k = nI ks → H1 27 k = nI b → H1 28 k = nI i → H1 29 k = nI w → (w = 1 ∨ w = 2) → ¬ x2 = 0 → (∀ j, j < i → inT (beT D n) (agT s j) (agT (tsH b) j) ≠ 0) → ((w = 2 ∨ x2 = 2) ↔ ∃ j, j < i ∧ inT (beT D n) (agT s j) (agT (tsH b) j) = 2) → goP d Q X1 X2 k x2 H1 := by
                intro f
                induction f with
                | zero =>
                  intro i H1 ts1 T1 x2 w a1 a2 a3 a4 a5 a6 a7 a8 a9 a10 a11 a12 a13 a14
                  have e1 : ts1 ks = s := by rw [a5 ks hks, hst]
                  have e2 : ts1 b = tsH b := by rw [a5 b hb4, eb]
                  obtain ⟨r, h5, g1, g2⟩ := cM_goOnC (d := d) (s := ks) (b := b) (i := i) (w := w) (by omega) a3.1 (by omega) (lv_mono a4 hks) (lv_mono a4 hb4) (by rw [e1]; exact hsc.1) (by rw [e2]; exact hfb) (by rw [e1, e2]; exact hsc.2) (by rw [e1]; exact hrs) (by rw [e2]; exact hrb) a7 a8 a9 a10 (by rw [e2]; exact a2) a12
                  rw [e1, e2] at g2
                  have kt5 : ∀ (v : Nat) (p5 p6 p7 p8 : Option Value), (∀ c j, ¬ ((c = 28 ∨ c = 29) ∧ j = k) → h5 c j = H1 c j) → beT D (n + 1) (tsH a) (tsH b) = v → RM d 25 Q 26 [some (.ref 0), some (.int X1), some (.int X2), some (.int (nI k + (-1))), some (.int (nI v)), p5, p6, p7, p8] [] h5 := by
                    intro v p5 p6 p7 p8 hh hv
                    rw [← hv]
                    exact kt h5 ts1 T1 p5 p6 p7 p8 (mEx_off a3 (fun c j q => hh c j (by omega))) (by have := hx4.2.1; omega) (fun r hr => by rw [a5 r (lv_mono hx4.2.1 hr), hx4.2.2.1 r hr]) (fun c j y1 y2 y3 => by rw [hh c j (by omega), a6 c j y1 y2 y3])
                  rcases g2 with ⟨r1, r2, r3⟩ | ⟨r1, r2, r3⟩ | ⟨r1, j, A, B, h2, r2, r3, -⟩
                  · have hnz : ∀ j, j < 3 → inT (beT D n) (agT s j) (agT (tsH b) j) ≠ 0 := fun j hj => by
                      rcases Nat.lt_or_ge j i with y | y
                      · exact a13 j y
                      · rw [r2 j y hj]; omega
                    by_cases h22 : w = 2 ∨ x2 = 2
                    · obtain ⟨j, hj, e⟩ := a14.mp h22
                      have hr2 : r = nI 2 := by
                        rw [r1]; split
                        · rfl
                        · rcases h22 with q | q
                          · rw [q]
                          · rename_i z; exact absurd q z
                      refine ⟨r, h5, g1, fun _ p5 p6 p7 p8 => ?_, fun c => ?_⟩
                      · rw [hr2]
                        exact kt5 2 p5 p6 p7 p8 r3 (by rw [hV]; exact maxI_2 (f := fun j => inT (beT D n) (agT s j) (agT (tsH b) j)) hnz ⟨j, by omega, e⟩)
                      · rw [hr2] at c; exact absurd c (by decide)
                    · have hr1 : r = nI 1 := by
                        rw [r1, if_neg (fun q => h22 (Or.inr q))]
                        rcases a11 with q | q
                        · rw [q]
                        · exact absurd (Or.inl q) h22
                      refine ⟨r, h5, g1, fun _ p5 p6 p7 p8 => ?_, fun c => ?_⟩
                      · rw [hr1]
                        refine kt5 1 p5 p6 p7 p8 r3 ?_
                        rw [hV]
                        refine maxI_1 (f := fun j => inT (beT D n) (agT s j) (agT (tsH b) j)) hnz (fun j hj e => ?_)
                        rcases Nat.lt_or_ge j i with y | y
                        · exact h22 (a14.mpr ⟨j, y, e⟩)
                        · have : inT (beT D n) (agT s j) (agT (tsH b) j) = 1 := r2 j y hj _
                          have e' : inT (beT D n) (agT s j) (agT (tsH b) j) = 2 := e
                          omega
                      · rw [hr1] at c; exact absurd c (by decide)
                  · obtain ⟨j, hj, e⟩ := r2
                    refine ⟨r, h5, g1, fun _ p5 p6 p7 p8 => ?_, fun c => by rw [r1] at c; exact absurd c (by decide)⟩
                    rw [r1]
                    exact kt5 0 p5 p6 p7 p8 r3 (by rw [hV]; exact maxI_z (f := fun j => inT (beT D n) (agT s j) (agT (tsH b) j)) ⟨j, hj, e _⟩)
                  · omega
                | succ f ihf =>
                  intro i H1 ts1 T1 x2 w a1 a2 a3 a4 a5 a6 a7 a8 a9 a10 a11 a12 a13 a14
                  have e1 : ts1 ks = s := by rw [a5 ks hks, hst]
                  have e2 : ts1 b = tsH b := by rw [a5 b hb4, eb]
                  obtain ⟨r, h5, g1, g2⟩ := cM_goOnC (d := d) (s := ks) (b := b) (i := i) (w := w) (by omega) a3.1 (by omega) (lv_mono a4 hks) (lv_mono a4 hb4) (by rw [e1]; exact hsc.1) (by rw [e2]; exact hfb) (by rw [e1, e2]; exact hsc.2) (by rw [e1]; exact hrs) (by rw [e2]; exact hrb) a7 a8 a9 a10 (by rw [e2]; exact a2) a12
                  rw [e1, e2] at g2
                  have kt5 : ∀ (v : Nat) (p5 p6 p7 p8 : Option Value), (∀ c j, ¬ ((c = 28 ∨ c = 29) ∧ j = k) → h5 c j = H1 c j) → beT D (n + 1) (tsH a) (tsH b) = v → RM d 25 Q 26 [some (.ref 0), some (.int X1), some (.int X2), some (.int (nI k + (-1))), some (.int (nI v)), p5, p6, p7, p8] [] h5 := by
                    intro v p5 p6 p7 p8 hh hv
                    rw [← hv]
                    exact kt h5 ts1 T1 p5 p6 p7 p8 (mEx_off a3 (fun c j q => hh c j (by omega))) (by have := hx4.2.1; omega) (fun r hr => by rw [a5 r (lv_mono hx4.2.1 hr), hx4.2.2.1 r hr]) (fun c j y1 y2 y3 => by rw [hh c j (by omega), a6 c j y1 y2 y3])
                  rcases g2 with ⟨r1, r2, r3⟩ | ⟨r1, r2, r3⟩ | ⟨r1, j, A, B, h2, r2, r3, r4, r5, r6, r7, r8, r9, r10, r11⟩
                  · have hnz : ∀ j, j < 3 → inT (beT D n) (agT s j) (agT (tsH b) j) ≠ 0 := fun j hj => by
                      rcases Nat.lt_or_ge j i with y | y
                      · exact a13 j y
                      · rw [r2 j y hj]; omega
                    by_cases h22 : w = 2 ∨ x2 = 2
                    · obtain ⟨j, hj, e⟩ := a14.mp h22
                      have hr2 : r = nI 2 := by
                        rw [r1]; split
                        · rfl
                        · rcases h22 with q | q
                          · rw [q]
                          · rename_i z; exact absurd q z
                      refine ⟨r, h5, g1, fun _ p5 p6 p7 p8 => ?_, fun c => ?_⟩
                      · rw [hr2]
                        exact kt5 2 p5 p6 p7 p8 r3 (by rw [hV]; exact maxI_2 (f := fun j => inT (beT D n) (agT s j) (agT (tsH b) j)) hnz ⟨j, by omega, e⟩)
                      · rw [hr2] at c; exact absurd c (by decide)
                    · have hr1 : r = nI 1 := by
                        rw [r1, if_neg (fun q => h22 (Or.inr q))]
                        rcases a11 with q | q
                        · rw [q]
                        · exact absurd (Or.inl q) h22
                      refine ⟨r, h5, g1, fun _ p5 p6 p7 p8 => ?_, fun c => ?_⟩
                      · rw [hr1]
                        refine kt5 1 p5 p6 p7 p8 r3 ?_
                        rw [hV]
                        refine maxI_1 (f := fun j => inT (beT D n) (agT s j) (agT (tsH b) j)) hnz (fun j hj e => ?_)
                        rcases Nat.lt_or_ge j i with y | y
                        · exact h22 (a14.mpr ⟨j, y, e⟩)
                        · have : inT (beT D n) (agT s j) (agT (tsH b) j) = 1 := r2 j y hj _
                          have e' : inT (beT D n) (agT s j) (agT (tsH b) j) = 2 := e
                          omega
                      · rw [hr1] at c; exact absurd c (by decide)
                  · obtain ⟨j, hj, e⟩ := r2
                    refine ⟨r, h5, g1, fun _ p5 p6 p7 p8 => ?_, fun c => by rw [r1] at c; exact absurd c (by decide)⟩
                    rw [r1]
                    exact kt5 0 p5 p6 p7 p8 r3 (by rw [hV]; exact maxI_z (f := fun j => inT (beT D n) (agT s j) (agT (tsH b) j)) ⟨j, hj, e _⟩)
                  · -- an ARGUMENT is asked
                    have gAB : G (ts1 A) ∧ G (ts1 B) := by
                      have gs := (hG1 _ ga hfa _ s hsu).2
                      have gbb := hG2 _ gb hfb
                      rcases r8 with ⟨⟨w1, z1⟩, ⟨w2, z2⟩⟩ | ⟨⟨w1, z1⟩, ⟨w2, z2⟩⟩
                      · exact ⟨gs j w1 _ (by omega) z1, gbb j w2 _ (by omega) z2⟩
                      · exact ⟨gbb j w1 _ (by omega) z1, gs j w2 _ (by omega) z2⟩
                    refine ⟨r, h5, g1, fun c => absurd r1 c, fun _ => ⟨k9, fun p5 p6 p7 p8 => ?_⟩⟩
                    rw [r9]
                    have hx2 : mEx Z D fL fP0 h ts m T nd h2 ts1 T1 := mEx_off a3 (fun c j q => r10 c j (by omega))
                    refine sub h2 ts1 T1 j A B p5 p6 p7 p8 _ (by omega) hx2 r5 r6 gAB.1 gAB.2 (fun H2 ts2 T2 z1 z2 z3 z4 z5 => ?_)
                    have hIj : inT (beT D n) (agT s j) (agT (tsH b) j) = beT D n (ts1 A) (ts1 B) := r7 _
                    have hle2 := beT_le D n (ts1 A) (ts1 B)
                    have b4 : T4 ≤ T2 := by omega
                    have b5 : ∀ r, mLv m T4 r → ts2 r = ts4 r := fun r hr => by rw [z3 r (lv_mono a4 hr), a5 r hr]
                    have b6 : ∀ c j, 26 ≤ c → c ≤ 29 → j < k → H2 c j = H c j := fun c j y1 y2 y3 => by rw [z4 c j y1 y2 (by omega) (by omega), r10 c j (by omega), a6 c j y1 y2 y3]
                    have b7 : H2 26 k = nI ks := by rw [z4 26 k (by omega) (by omega) (by omega) (by omega), r10 26 k (by omega), a7]
                    have b8 : H2 27 k = nI b := by rw [z4 27 k (by omega) (by omega) (by omega) (by omega), r10 27 k (by omega), a8]
                    have b10 : H2 29 k = nI (if x2 = 2 then 2 else w) := by
                      rw [z4 29 k (by omega) (by omega) (by omega) (by omega), r11]
                      split <;> rfl
                    by_cases hz : beT D n (ts1 A) (ts1 B) = 0
                    · rw [hz]
                      refine ⟨0, H2, cM_goOnC0 (d := d) (by omega) z1.1.1.1 (by omega) (lv_mono b4 hks) (by rw [b5 ks hks, hst]; exact hsc.1) b7, fun _ p5 p6 p7 p8 => ?_, fun c => absurd c (by decide)⟩
                      have hv0 : beT D (n + 1) (tsH a) (tsH b) = 0 := by rw [hV]; exact maxI_z (f := fun j => inT (beT D n) (agT s j) (agT (tsH b) j)) ⟨j, by omega, by rw [hIj, hz]⟩
                      have := kt H2 ts2 T2 p5 p6 p7 p8 z1 (by have := hx4.2.1; omega) (fun r hr => by rw [b5 r (lv_mono hx4.2.1 hr), hx4.2.2.1 r hr]) b6
                      rw [hv0] at this
                      exact this
                    · refine ihf (j + 1) H2 ts2 T2 _ (if x2 = 2 then 2 else w) (by omega) (by omega) z1 b4 b5 b6 b7 b8 z5 b10 (by split <;> omega) ?_ (fun l hl => ?_) ?_
                      · rw [show (0 : Int32) = nI 0 from rfl, neN (by omega) (by omega)]; exact hz
                      · rcases Nat.lt_or_ge l i with y | y
                        · exact a13 l y
                        · rcases Nat.lt_or_ge l j with y2 | y2
                          · rw [r4 l y y2]; omega
                          · have : l = j := by omega
                            rw [this, hIj]; exact hz
                      · rw [show (2 : Int32) = nI 2 from rfl, neN (by omega) (by omega)]
                        constructor
                        · rintro (q | q)
                          · have : w = 2 ∨ x2 = 2 := by
                              by_cases hx : x2 = nI 2
                              · exact Or.inr hx
                              · rw [if_neg hx] at q; exact Or.inl q
                            obtain ⟨l, l1, l2⟩ := a14.mp this
                            exact ⟨l, by omega, l2⟩
                          · exact ⟨j, by omega, by rw [hIj]; exact q⟩
                        · rintro ⟨l, l1, l2⟩
                          rcases Nat.lt_or_ge l i with y | y
                          · have := a14.mpr ⟨l, y, l2⟩
                            left
                            by_cases hx : x2 = nI 2
                            · rw [if_pos hx]
                            · rw [if_neg hx]
                              exact this.resolve_right hx
                          · rcases Nat.lt_or_ge l j with y2 | y2
                            · rw [r4 l y y2] at l2; omega
                            · have : l = j := by omega
                              rw [this, hIj] at l2
                              exact Or.inr l2
              refine LC _ 0 _ ts4 T4 (-1) 1 (Nat.le_refl _) (Nat.zero_le _) (mEx.up (mEx.up hxs _ (Or.inr ⟨by omega, by unfold fL; omega⟩)) _ (Or.inr ⟨by omega, by unfold fL; omega⟩)) (Nat.le_refl _) (fun _ _ => rfl) (fun c j y1 y2 y3 => by rw [up_e, if_neg (by omega), up_e, if_neg (by omega), up_e, if_neg (by omega), f4 c j y1 y2]) (by rw [up_k _ _ (by decide), up_k _ _ (by decide), up_s]) (by rw [up_k _ _ (by decide), up_k _ _ (by decide), up_k _ _ (by decide), f4 27 k (by omega) (by omega), h27]) (by rw [up_k _ _ (by decide), up_s]; rfl) (up_s _ _ _ _) (Or.inl rfl) (by decide) (fun j hj => by omega) ⟨fun q => ?_, fun ⟨j, hj, _⟩ => by omega⟩
              rcases q with q | q
              · omega
              · exact absurd q (by decide)
            refine ⟨nI ks, h4, cs, fun c => absurd c (gt0N (by omega)), fun _ => ⟨inN hksl (by decide), ?_⟩⟩
            rw [clp (by omega)]
            refine ⟨fun cf => ⟨fun _ => ⟨_, h4, crb, fun c0 => ⟨_, h4, crs, fun c1 => fin 0 _ _ _ _ (raw3 (p01 c0) (p01 c1) (fun q => cf (hout.mpr q))), fun c1 => fin 2 _ _ _ _ (raw2 (p01 c0) (p10 c1))⟩, fun c0 => fin 1 _ _ _ _ (raw1 (p10 c0))⟩, fun c => absurd (nI_pos' (by omega)) c⟩, fun cf => ⟨fun _ => ⟨_, h4, crb, fun c0 => ⟨_, h4, crs, fun c1 => ?_, fun c1 => fin 2 _ _ _ _ (raw2 (p01 c0) (p10 c1))⟩, fun c0 => fin 1 _ _ _ _ (raw1 (p10 c0))⟩, fun c => absurd (nI_pos' (by omega)) c⟩⟩
            obtain ⟨r1, h1, g1, g2, g3⟩ := go0 (p01 c0) (p01 c1) (hout.mp cf)
            exact ⟨r1, h1, g1, fun c => g2 c _ _ _ _, fun c => ⟨(g3 c).1, (g3 c).2 _ _ _ _⟩⟩
    · rw [show (5 : Int32) = nI 5 from rfl, neN (by omega) (by omega)] at c; omega
/-- belowOf(a, b) -/
theorem cM_belowOf {d : Nat} (hd : 9 ≤ d) {Z : List Ty} {D : DS} {h : ai_H} {ts : Nat → Ty} {m T nd a b : Nat} {G : Ty → Prop} (hI : mInv Z D h ts m T nd) (ha : mLv m T a) (hb : mLv m T b) (ga : G (ts a)) (gb : G (ts b))
    (hG1 : ∀ t, G t → foT t = 5 → ∀ f s, suT D 12 t f = some s → s ∈ Z ∧ ∀ i w A, i < 3 → agT s i = tG w A → G A) (hG2 : ∀ t, G t → foT t = 5 → ∀ i w A, i < 3 → agT t i = tG w A → G A) (hG3 : ∀ t, G (tA t) → G t) (hG4 : ∀ e p B, G (tV e p) → B ∈ dsB D e p → G B)
    (hZb : ∀ e, e < nd → brT (dsO D) 12 e ∈ Z) (hZn : ∀ b, b < m → 10 ≤ b → ts b ∈ Z) :
    ∃ h' ts' T', CM d 25 [.ref 0, .int (nI a), .int (nI b)] h (some (.int (nI (beT D 5 (ts a) (ts b))))) h' ∧ mEx Z D fL fP0 h ts m T nd h' ts' T' := by
  have hm11 : 11 ≤ m := hI.1.1.2.1
  suffices hs : ∃ r h', CM d 25 [.ref 0, .int (nI a), .int (nI b)] h r h' ∧ (r = some (.int (nI (beT D 5 (ts a) (ts b)))) ∧ ∃ ts' T', mEx Z D fL fP0 h ts m T nd h' ts' T') by
    obtain ⟨r, h', hc, rfl, ts', T', q⟩ := hs
    exact ⟨h', ts', T', hc, q⟩
  refine iM (by omega) rfl (sM_25_0 ?_)
  have hx : mEx Z D fL fP0 h ts m T nd (ai_up (ai_up (ai_up h 26 0 (nI a)) 27 0 (nI b)) 28 0 (-1)) ts T := mEx.up (mEx.up (mEx.up (mEx.rf hI) _ (Or.inr ⟨by omega, by unfold fL; omega⟩)) _ (Or.inr ⟨by omega, by unfold fL; omega⟩)) _ (Or.inr ⟨by omega, by unfold fL; omega⟩)
  refine cM_bel (d := d - 1) (h := h) (ts := ts) (T := T) (by omega) hG1 hG2 hG3 hG4 hZb hZn hm11 5 0 a b _ ts T (-1) none none none none rfl hx ha hb ga gb ?_ ?_ (up_s _ _ _ _) (fun H' ts' T' p5 p6 p7 p8 z1 z2 z3 z4 => ?_)
  · rw [up_k _ _ (by decide), up_k _ _ (by decide)]; exact up_s _ _ _ _
  · rw [up_k _ _ (by decide)]; exact up_s _ _ _ _
  · exact sM_25_26 ⟨fun _ => ⟨rfl, ts', T', z1⟩, fun c => absurd (by decide) c⟩
