def upN (f : Nat → Nat) (k v : Nat) : Nat → Nat := fun q => if q = k then v else f q
theorem upN_s (f : Nat → Nat) (k v : Nat) : upN f k v k = v := if_pos rfl
theorem upN_n {f : Nat → Nat} {k q : Nat} (v : Nat) (h : q ≠ k) : upN f k v q = f q := if_neg h
theorem mTb_eq {Z : List Ty} {h H : ai_H} {ts : Nat → Ty} {m T nd : Nat} (e0 : H 0 0 = h 0 0) (e1 : H 0 1 = h 0 1) (e : ∀ c j, 1 ≤ c → c ≤ 9 → H c j = h c j) (hT : mTb Z h ts m T nd) : mTb Z H ts m T nd := by
  obtain ⟨⟨t0, t1, t2, t3, t4, t5, hrow, hinj⟩, a1, a2, a3⟩ := hT
  exact ⟨⟨by rw [e0, t0], t1, t2, t3, t4, t5, fun k hk => ⟨mRow_ext (hrow k hk).1 (Nat.le_refl _) (fun c q1 q => e c k q1 (by omega)) (fun i _ => ⟨e 8 _ (by omega) (by omega), e 9 _ (by omega) (by omega)⟩) (fun _ _ => rfl) rfl (fun _ q => q), by rw [e 7 k (by omega) (by omega)]; exact (hrow k hk).2⟩, hinj⟩, by rw [e1, a1], a2, a3⟩
/-- a later state of the table -/
def mEx (Z : List Ty) (D : DS) (F F0 : Nat → Prop) (h : ai_H) (ts : Nat → Ty) (m T nd : Nat) (H : ai_H) (tsH : Nat → Ty) (TH : Nat) : Prop := mInv Z D H tsH m TH nd ∧ T ≤ TH ∧ (∀ a, mLv m T a → tsH a = ts a) ∧ mFr F F0 h H
def mRes (Z : List Ty) (D : DS) (F F0 : Nat → Prop) (h : ai_H) (ts : Nat → Ty) (m T nd : Nat) (t : Ty) (k : Nat) (h' : ai_H) : Prop := ∃ (ts' : Nat → Ty) (T' : Nat), mEx Z D F F0 h ts m T nd h' ts' T' ∧ mLv m T' k ∧ ts' k = t
theorem mEx.rf {Z : List Ty} {D : DS} {F F0 : Nat → Prop} {h : ai_H} {ts : Nat → Ty} {m T nd : Nat} (hI : mInv Z D h ts m T nd) : mEx Z D F F0 h ts m T nd h ts T := ⟨hI, Nat.le_refl _, fun _ _ => rfl, mFr.rf⟩
theorem mEx.tr {Z : List Ty} {D : DS} {F F0 G G0 : Nat → Prop} {h h1 h2 : ai_H} {ts ts1 ts2 : Nat → Ty} {m T T1 T2 nd : Nat} (a : mEx Z D F F0 h ts m T nd h1 ts1 T1) (b : mEx Z D G G0 h1 ts1 m T1 nd h2 ts2 T2) (f : ∀ c, G c → F c) (f0 : ∀ c, G0 c → F0 c) : mEx Z D F F0 h ts m T nd h2 ts2 T2 :=
  ⟨b.1, Nat.le_trans a.2.1 b.2.1, fun q hq => (b.2.2.1 q (lv_mono a.2.1 hq)).trans (a.2.2.1 q hq), a.2.2.2.tr (b.2.2.2.wk f f0)⟩
theorem mEx.wk {Z : List Ty} {D : DS} {F F0 G G0 : Nat → Prop} {h h1 : ai_H} {ts ts1 : Nat → Ty} {m T T1 nd : Nat} (a : mEx Z D F F0 h ts m T nd h1 ts1 T1) (f : ∀ c, F c → G c) (f0 : ∀ c, F0 c → G0 c) : mEx Z D G G0 h ts m T nd h1 ts1 T1 := ⟨a.1, a.2.1, a.2.2.1, a.2.2.2.wk f f0⟩
/-- a write outside the table -/
theorem mEx.up {Z : List Ty} {D : DS} {F F0 : Nat → Prop} {h h1 : ai_H} {ts ts1 : Nat → Ty} {m T T1 nd c i : Nat} (a : mEx Z D F F0 h ts m T nd h1 ts1 T1) (x : Int32) (hc : (c = 0 ∧ i ≠ 0 ∧ i ≠ 1 ∧ i ≠ 13 ∧ F0 i) ∨ ((c = 10 ∨ c = 11 ∨ 19 ≤ c) ∧ F c)) : mEx Z D F F0 h ts m T nd (ai_up h1 c i x) ts1 T1 := by
  obtain ⟨a1, a2, a3, a4⟩ := a
  have e0 : ∀ j, (j = 0 ∨ j = 1 ∨ j = 13) → ai_up h1 c i x 0 j = h1 0 j := fun j hj => by
    rw [up_e, if_neg]; rintro ⟨q1, q2⟩; omega
  have e1 : ∀ c' j, 1 ≤ c' → (c' ≤ 9 ∨ (12 ≤ c' ∧ c' ≤ 18)) → ai_up h1 c i x c' j = h1 c' j := fun c' j q1 q2 => by
    rw [up_e, if_neg]; rintro ⟨q3, q4⟩; omega
  refine ⟨mInv_out a1 (mTb_eq (e0 0 (by omega)) (e0 1 (by omega)) (fun c j q1 q2 => e1 c j q1 (Or.inl q2)) a1.1) ⟨fun c' j q1 q2 => e1 c' j (by omega) (Or.inr (by unfold fD at q2; omega)), fun j hj => e0 j (by unfold fD0 at hj; omega)⟩ (fun _ _ => rfl), a2, a3, ⟨fun c' j q1 q2 => ?_, fun j hj => ?_⟩⟩
  · rw [up_e, if_neg, a4.1 c' j q1 q2]
    rintro ⟨q3, q4⟩
    rcases hc with z | z
    · omega
    · exact q2 (q3 ▸ z.2)
  · rw [up_e, if_neg, a4.2 j hj]
    rintro ⟨q3, q4⟩
    rcases hc with z | z
    · exact hj (q4 ▸ z.2.2.2.2)
    · omega
theorem cM_typeR {d : Nat} (hd : 2 ≤ d) {Z : List Ty} {D : DS} {h : ai_H} {ts : Nat → Ty} {m T nd : Nat} {x1 x2 x3 x4 x5 : Int32} {t : Ty} (hI : mInv Z D h ts m T nd) (hg : mTg h ts m T nd x1 x2 x3 x4 x5 t) (hz : t ∈ Z) :
    ∃ k h', CM d 5 [.ref 0, .int x1, .int x2, .int x3, .int x4, .int x5] h (some (.int (nI k))) h' ∧ mRes Z D fT fT0 h ts m T nd t k h' ∧ 10 ≤ k := by
  obtain ⟨k, h', c1, ⟨ts', T', c2, c3, c4, c5, c6⟩, c7, c8⟩ := cM_type hd hI.1 hg hz
  exact ⟨k, h', c1, ⟨ts', T', ⟨mInv_out hI c2 (c7.wk (fun c q => by unfold fT at q; unfold fD; omega) (fun c q => by unfold fT0 at q; unfold fD0; omega)) c4, c3, c4, c7⟩, c5, c6⟩, c8⟩
theorem cM_arrayOf {d : Nat} (hd : 3 ≤ d) {Z : List Ty} {D : DS} {h : ai_H} {ts : Nat → Ty} {m T nd e : Nat} (hI : mInv Z D h ts m T nd) (he : mLv m T e) (hz : tA (ts e) ∈ Z) :
    ∃ k h', CM d 6 [.ref 0, .int (nI e)] h (some (.int (nI k))) h' ∧ mRes Z D fT fT0 h ts m T nd (tA (ts e)) k h' ∧ 10 ≤ k := by
  obtain ⟨k, h', c1, c2⟩ := cM_typeR (d := d - 1) (x2 := -1) (x3 := -1) (x5 := -1) (by omega) hI (Or.inr (Or.inl ⟨rfl, e, rfl, he, rfl⟩)) hz
  exact ⟨k, h', iMe (by omega) rfl (sM_6_0 ⟨_, _, c1, rfl, rfl⟩), c2⟩
def fB0 (j : Nat) : Prop := j = 1 ∨ j = 24
theorem cM_bare {d : Nat} (hd : 3 ≤ d) {Z : List Ty} {D : DS} {h : ai_H} {ts : Nat → Ty} {m T nd e : Nat} {x : Int32} {ot : Ty} (hI : mInv Z D h ts m T nd) (he : e < nd) (hx : (x = -1 ∧ ot = tN) ∨ ∃ o, x = nI o ∧ mLv m T o ∧ 10 ≤ o ∧ ot = ts o ∧ foT (ts o) = 5) (hz : tC e ot tN tN tN ∈ Z) :
    ∃ k h', CM d 7 [.ref 0, .int (nI e), .int x] h (some (.int (nI k))) h' ∧ mRes Z D fT fB0 h ts m T nd (tC e ot tN tN tN) k h' ∧ 10 ≤ k := by
  have h0 : mEx Z D fT fB0 h ts m T nd (ai_up h 0 24 0) ts T := mEx.up (mEx.rf hI) 0 (Or.inl ⟨rfl, by omega, by omega, by omega, Or.inr rfl⟩)
  obtain ⟨k, h', c1, ⟨ts', T', c2, c3, c4⟩, c5⟩ := cM_typeR (d := d - 1) (x2 := nI e) (x3 := -1) (x4 := -1) (x5 := x) (t := tC e ot tN tN tN) (by omega) h0.1 (Or.inr (Or.inr ⟨rfl, e, 0, fun _ => tN, ot, rfl, he, ⟨up_s _ _ _ _, by omega, fun i hi => by omega, fun _ _ => rfl⟩, hx, rfl⟩)) hz
  exact ⟨k, h', iMe (by omega) rfl (sM_7_0 ⟨_, _, c1, rfl, rfl⟩), ⟨ts', T', h0.tr c2 (fun _ q => q) (fun _ q => Or.inl q), c3, c4⟩, c5⟩
theorem brT_fuel {O : Nat → Option Nat} (hO : ∀ d o, O d = some o → o < d) : ∀ (n n' d : Nat), d < n → d < n' → brT O n d = brT O n' d
  | 0, _, _, h, _ => by omega
  | n + 1, 0, _, _, h => by omega
  | n + 1, n' + 1, d, h1, h2 => by
    simp only [brT]
    cases e : O d with
    | none => rfl
    | some o =>
      have := hO d o e
      simp only
      rw [brT_fuel hO n n' o (by omega) (by omega)]
theorem brT_step {O : Nat → Option Nat} (hO : ∀ d o, O d = some o → o < d) {d : Nat} (hd : d < 12) : brT O 12 d = tC d (match O d with
    | none => tN
    | some o => brT O 12 o) tN tN tN := by
  show tC d _ tN tN tN = _
  cases e : O d with
  | none => rfl
  | some o =>
    have := hO d o e
    simp only
    rw [brT_fuel hO 11 12 o (by omega) (by omega)]
theorem brT_fo (O : Nat → Option Nat) (n d : Nat) : foT (brT O n d) = 5 ∧ dcl (brT O n d) = d := by
  cases n <;> exact ⟨rfl, rfl⟩
def nA : Nat → Ty → Ty
  | 0, t => t
  | n + 1, t => tA (nA n t)
theorem nA_succ : ∀ (n : Nat) (t : Ty), nA (n + 1) t = nA n (tA t)
  | 0, _ => rfl
  | n + 1, t => by
    show tA (nA (n + 1) t) = tA (nA n (tA t))
    rw [nA_succ n t]
theorem erT_nA (D : DS) : ∀ (n : Nat) (t : Ty), erT D (nA n t) = nA n (erT D t)
  | 0, _ => rfl
  | n + 1, t => by
    show tA (erT D (nA n t)) = tA (nA n (erT D t))
    rw [erT_nA D n t]
/-- ERASED of what is no ARRAY, with f steps of BOUNDS -/
def ebT (D : DS) (f : Nat) : Ty → Ty
  | .sub (.arg e) (.arg q) => evT D f e q
  | .add (.arg e) _ => brT (dsO D) 12 e
  | t => t
def fE (c : Nat) : Prop := (1 ≤ c ∧ c ≤ 9) ∨ c = 25
set_option maxHeartbeats 1000000 in
theorem cM_erasedOf {d : Nat} (hd : 4 ≤ d) {Z : List Ty} {D : DS} {h : ai_H} {ts : Nat → Ty} {m T nd x : Nat} (hI : mInv Z D h ts m T nd) (hx : mLv m T x) (hZb : ∀ e, e < nd → brT (dsO D) 12 e ∈ Z) (hZe : ∀ n b j, ts x = nA n b → 1 ≤ j → j ≤ n → nA j (erT D b) ∈ Z) :
    ∃ k h', CM d 13 [.ref 0, .int (nI x)] h (some (.int (nI k))) h' ∧ mRes Z D fE fB0 h ts m T nd (erT D (ts x)) k h' := by
  have hI0 := hI
  obtain ⟨⟨⟨t0, t1, t2, t3, t4, t5, hrow, hinj⟩, hT1, -, -⟩, ⟨-, hdec⟩, hdw, hwfn, hwfz, h10⟩ := hI
  obtain ⟨dw1, dw2, dw3, dw4, dw5, dw6, rk, dw7, dw8⟩ := hdw
  have hxl := mLv_lt t2 t4 hx
  suffices hs : ∃ r h', CM d 13 [.ref 0, .int (nI x)] h r h' ∧ ∃ k, r = some (.int (nI k)) ∧ mRes Z D fE fB0 h ts m T nd (erT D (ts x)) k h' by
    obtain ⟨r, h', hc, k, rfl, q⟩ := hs
    exact ⟨k, h', hc, q⟩
  refine iM (by omega) rfl (sM_13_0 ?_)
  -- the ARRAYS again
  have L5 : ∀ (r n : Nat) (b : Ty) (o4 : Option Value) (k : Nat) (H : ai_H) (tsH : Nat → Ty) (TH : Nat), r ≤ n → n < 6256 → ts x = nA n b → mEx Z D fE fB0 h ts m T nd H tsH TH → mLv m TH k → tsH k = nA (n - r) (erT D b) → RM (d - 1) 13 (fun r h' => ∃ k, r = some (.int (nI k)) ∧ mRes Z D fE fB0 h ts m T nd (erT D (ts x)) k h') 149 [some (.ref 0), some (.int (nI x)), some (.int (nI k)), some (.int (nI r)), o4] [] H := by
    intro r
    induction r with
    | zero =>
      intro n b o4 k H tsH TH a1 a2 a3 a4 a5 a6
      refine sM_13_149 ⟨fun _ => ⟨k, rfl, tsH, TH, a4, a5, ?_⟩, fun c => absurd ?_ c⟩
      · rw [a6, a3, erT_nA]; rfl
      · exact Int32.le_refl _
    | succ r ih =>
      intro n b o4 k H tsH TH a1 a2 a3 a4 a5 a6
      obtain ⟨k2, h2, c1, ⟨ts2, T2, c2, c3, c4⟩, c5⟩ := cM_arrayOf (d := d - 1) (by omega) a4.1 a5 (by
        rw [a6]; exact hZe n b (n - (r + 1) + 1) a3 (by omega) (by omega))
      refine sM_13_149 ⟨fun c => absurd c ?_, fun _ => ⟨_, h2, c1, ?_⟩⟩
      · rw [show (0 : Int32) = nI 0 from rfl, leN (by omega) (by omega)]; omega
      · rw [pk_m1]
        refine ih n b _ k2 h2 ts2 T2 (by omega) a2 a3 (a4.tr c2 (fun _ q => Or.inl q) (fun _ q => Or.inl q)) c3 ?_
        rw [c4, a6, show n - r = n - (r + 1) + 1 by omega]
        rfl
  -- the bare types, from the outermost one on
  have L4 : ∀ (i n j : Nat) (b : Ty) (cs : Nat → Nat) (x2 : Int32) (H : ai_H) (tsH : Nat → Ty) (TH : Nat), i ≤ j → 1 ≤ j → j ≤ 12 → n < 6256 → ts x = nA n b → erT D b = brT (dsO D) 12 (cs 0) → (∀ q, q < j → H 25 q = nI (cs q) ∧ cs q < nd) → (∀ q, q + 1 < j → dsO D (cs q) = some (cs (q + 1))) → dsO D (cs (j - 1)) = none → mEx Z D fE fB0 h ts m T nd H tsH TH → ((i = j ∧ x2 = -1) ∨ (i < j ∧ ∃ k, x2 = nI k ∧ mLv m TH k ∧ 10 ≤ k ∧ tsH k = brT (dsO D) 12 (cs i))) → RM (d - 1) 13 (fun r h' => ∃ k, r = some (.int (nI k)) ∧ mRes Z D fE fB0 h ts m T nd (erT D (ts x)) k h') 125 [some (.ref 0), some (.int (nI x)), some (.int x2), some (.int (nI n)), some (.int (nI i))] [] H := by
    intro i
    induction i with
    | zero =>
      intro n j b cs x2 H tsH TH a0 a1 a2 a3 a4 a5 a6 a7 a8 a9 a10
      refine sM_13_125 ⟨fun _ => ?_, fun c => absurd ?_ c⟩
      · rcases a10 with ⟨q, -⟩ | ⟨-, k, q1, q2, q3, q4⟩
        · omega
        · rw [q1]
          exact L5 n n b _ k H tsH TH (Nat.le_refl _) a3 a4 a9 q2 (by rw [q4, Nat.sub_self, a5]; rfl)
      · exact Int32.le_refl _
    | succ i ih =>
      intro n j b cs x2 H tsH TH a0 a1 a2 a3 a4 a5 a6 a7 a8 a9 a10
      obtain ⟨e1, e2⟩ := a6 i (by omega)
      -- the OUTER TYPE's tree
      obtain ⟨ot, hot, hx2⟩ : ∃ ot, brT (dsO D) 12 (cs i) = tC (cs i) ot tN tN tN ∧ ((x2 = -1 ∧ ot = tN) ∨ ∃ o, x2 = nI o ∧ mLv m TH o ∧ 10 ≤ o ∧ ot = tsH o ∧ foT (tsH o) = 5) := by
        rw [brT_step dw3 (show cs i < 12 by omega)]
        rcases a10 with ⟨q1, q2⟩ | ⟨q0, k, q1, q2, q3, q4⟩
        · have hij : i = j - 1 := by omega
          rw [hij, a8]
          exact ⟨tN, rfl, Or.inl ⟨q2, rfl⟩⟩
        · rw [a7 i (by omega)]
          exact ⟨_, rfl, Or.inr ⟨k, q1, q2, q3, q4.symm, by rw [q4]; exact (brT_fo _ _ _).1⟩⟩
      obtain ⟨k2, h2, c1, ⟨ts2, T2, c2, c3, c4⟩, c5⟩ := cM_bare (d := d - 1) (by omega) a9.1 e2 hx2 (by rw [← hot]; exact hZb _ e2)
      refine sM_13_125 ⟨fun c => absurd c ?_, fun _ => ?_⟩
      · rw [show (0 : Int32) = nI 0 from rfl, leN (by omega) (by omega)]; omega
      · rw [pk_m1, clp (by omega), e1]
        refine ⟨inN (by omega) (by decide), _, h2, c1, ?_⟩
        refine ih n j b cs _ h2 ts2 T2 (by omega) a1 a2 a3 a4 a5 (fun q hq => ?_) a7 a8 (a9.tr c2 (fun _ q => Or.inl q) (fun _ q => q)) (Or.inr ⟨by omega, k2, rfl, c3, c5, by rw [c4, hot]⟩)
        rw [c2.2.2.2.1 25 q (by decide) (by unfold fT; omega)]
        exact a6 q hq
  -- the chain of OUTER TYPES
  have L3 : ∀ (f k n j : Nat) (b : Ty) (cs : Nat → Nat) (H : ai_H), k ≤ f → mLv m T k → foT (ts k) = 5 → n < 6256 → ts x = nA n b → erT D b = brT (dsO D) 12 (cs 0) → (∀ q, q < j → H 25 q = nI (cs q) ∧ cs q < nd) → (∀ q, q + 1 ≤ j → dsO D (cs q) = some (cs (q + 1))) → cs j = dcl (ts k) → j + dcl (ts k) < 12 → mEx Z D fE fB0 h ts m T nd H ts T → RM (d - 1) 13 (fun r h' => ∃ k, r = some (.int (nI k)) ∧ mRes Z D fE fB0 h ts m T nd (erT D (ts x)) k h') 95 [some (.ref 0), some (.int (nI x)), some (.int (nI k)), some (.int (nI n)), some (.int (nI j))] [] H := by
    intro f
    induction f with
    | zero =>
      intro k n j b cs H a0 a1 a2
      exfalso
      have : k = 0 := by omega
      rcases (hrow k a1).1 with ⟨w1, w2, w3⟩ | ⟨w0, -⟩ | ⟨w0, -⟩ | ⟨w0, -⟩
      · rw [w2, this] at a2; exact absurd a2 (by decide)
      · omega
      · omega
      · omega
    | succ f ih =>
      intro k n j b cs H a0 a1 a2 a3 a4 a5 a6 a7 a8 a9 a10
      have hl := mLv_lt t2 t4 a1
      have hwf := mInv_wf hI0 a1
      rcases (hrow k a1).1 with ⟨w1, w2, w3⟩ | ⟨w0, d2, p2, w1, w2, -⟩ | ⟨w0, e2, w1, w2, -⟩ | ⟨w0, d2, n2, g2, o2, w1, w2, w3, w4, w5, w6, w7, w8, w9⟩
      · rw [w2] at a2; simp only [tP, foT] at a2; split at a2
        · omega
        · split at a2 <;> omega
      · rw [w1] at a2; simp [tV, foT] at a2
      · rw [w1] at a2; simp [tA, foT] at a2
      · have hdk : dcl (ts k) = d2 := by rw [w1]; rfl
        rw [hdk] at a8 a9
        rw [w1] at hwf
        simp only [tC, wfT] at hwf
        obtain ⟨-, hwo, -⟩ := hwf
        have eH : ∀ c q, 1 ≤ c → c ≤ 9 → H c q = h c q ∨ True := fun _ _ _ _ => Or.inr trivial
        -- the row itself, in H
        have rH := (a10.1.1.1.2.2.2.2.2.2.1 k a1).1
        have r2 : H 2 k = nI d2 := by
          rcases rH with ⟨v1, -⟩ | ⟨-, d3, p3, v1, -⟩ | ⟨-, e3, v1, -⟩ | ⟨-, d3, n3, g3, o3, v1, v2, v3, -⟩
          · omega
          · rw [w1] at v1; simp [tC, tV] at v1
          · rw [w1] at v1; simp [tC, tA] at v1
          · rw [w1, tC_inj] at v1; rw [v3, v1.1]
        have r5 : (H 5 k = -1 ∧ o2 = tN) ∨ ∃ o, H 5 k = nI o ∧ o < k ∧ mLv m T o ∧ 10 ≤ o ∧ o2 = ts o ∧ foT (ts o) = 5 := by
          rcases rH with ⟨v1, -⟩ | ⟨-, d3, p3, v1, -⟩ | ⟨-, e3, v1, -⟩ | ⟨-, d3, n3, g3, o3, v1, v2, v3, v4, v5, v6, v7, -⟩
          · omega
          · rw [w1] at v1; simp [tC, tV] at v1
          · rw [w1] at v1; simp [tC, tA] at v1
          · rw [w1, tC_inj] at v1; rw [v1.2.1]; exact v7
        refine sM_13_95 ⟨fun c => absurd c (gt0N (by omega)), fun _ => ⟨inN hl (by decide), inN (by omega) (by decide), ?_⟩⟩
        rw [clp (by omega), clp (by omega), r2, nI_1]
        have hup := mEx.up a10 (c := 25) (i := j) (nI d2) (Or.inr ⟨by omega, Or.inr rfl⟩)
        have h25 : ∀ q, q < j + 1 → ai_up H 25 j (nI d2) 25 q = nI (cs q) ∧ cs q < nd := by
          intro q hq
          rcases Nat.lt_or_ge q j with z | z
          · rw [up_i _ (by omega)]; exact a6 q z
          · have : q = j := by omega
            subst this
            rw [up_s, a8]; exact ⟨rfl, w4⟩
        rcases r5 with ⟨u1, u2⟩ | ⟨o, u1, u2, u3, u4, u5, u6⟩
        · rw [u1]
          refine sM_13_95 ⟨fun _ => ?_, fun c => absurd m1lt c⟩
          have hno : dsO D (cs (j + 1 - 1)) = none := by
            rw [show j + 1 - 1 = j by omega, a8]
            rcases hwo with ⟨z, -⟩ | ⟨e, z1, z2, z3⟩
            · exact z
            · rw [u2] at z2; simp [tN, foT] at z2
          exact L4 (j + 1) n (j + 1) b cs _ _ ts T (Nat.le_refl _) (by omega) (by omega) a3 a4 a5 h25 (fun q hq => a7 q (by omega)) hno hup (Or.inl ⟨rfl, rfl⟩)
        · rw [u1]
          rcases hwo with ⟨-, z⟩ | ⟨e, z1, z2, z3⟩
          · rw [u5] at z; rw [z] at u6; simp [tN, foT] at u6
          · have hlt := dw3 _ _ z1
            rw [u5] at z3
            refine ih o n (j + 1) b (upN cs (j + 1) e) _ (by omega) u3 u6 a3 a4 (by rw [upN_n e (by omega)]; exact a5) (fun q hq => ?_) (fun q hq => ?_) ?_ (by rw [z3]; omega) hup
            · rw [upN_n e (by omega)]
              exact h25 q hq
            · rw [upN_n e (by omega)]
              by_cases hqj : q = j
              · subst hqj
                rw [upN_s, a8]; exact z1
              · rw [upN_n e (by omega)]
                exact a7 q (by omega)
            · rw [upN_s, z3]
  -- the BOUNDS of a VARIABLE
  have L2 : ∀ (f k n : Nat) (b : Ty) (o4 : Option Value), mLv m T k → foT (ts k) ≠ 4 → n < 6256 → ts x = nA n b → ebT D f (ts k) = erT D b → (∀ e q, ts k = tV e q → rk e q < f) → RM (d - 1) 13 (fun r h' => ∃ k, r = some (.int (nI k)) ∧ mRes Z D fE fB0 h ts m T nd (erT D (ts x)) k h') 27 [some (.ref 0), some (.int (nI x)), some (.int (nI k)), some (.int (nI n)), o4] [] h := by
    intro f
    induction f with
    | zero =>
      intro k n b o4 a1 a2 a3 a4 a5 a6
      have hl := mLv_lt t2 t4 a1
      rcases (hrow k a1).1 with ⟨w1, w2, w3⟩ | ⟨w0, d2, p2, w1, w2, -⟩ | ⟨w0, e2, w1, w2, -⟩ | ⟨w0, d2, n2, g2, o2, w1, w2, w3, w4, w5, w6, w7, w8, w9⟩
      · refine sM_13_27 ⟨inN hl (by decide), fun _ => ⟨fun _ => ?_, fun c => absurd c ?_⟩, fun c => absurd c ?_⟩
        · exact L5 n n b _ k h ts T (Nat.le_refl _) a3 a4 (mEx.rf hI0) a1 (by rw [Nat.sub_self, ← a5, w2]; rfl)
        · rw [clp (by omega), w3, show (5 : Int32) = nI 5 from rfl, neN (by split <;> omega) (by omega)]; split <;> omega
        · rw [clp (by omega), w3, show (3 : Int32) = nI 3 from rfl, neN (by split <;> omega) (by omega)]; split <;> omega
      · exact absurd (a6 d2 p2 w1) (by omega)
      · rw [w1] at a2; simp [tA, foT] at a2
      · refine sM_13_27 ⟨inN hl (by decide), fun _ => ⟨fun c => absurd ?_ c, fun _ => ?_⟩, fun c => absurd c ?_⟩
        · rw [clp (by omega), w2]
        · exact L3 k k n 0 b (fun _ => d2) h (Nat.le_refl _) a1 (by rw [w1]; rfl) a3 a4 (by rw [← a5, w1]; rfl) (fun q hq => by omega) (fun q hq => by omega) (by rw [w1]; rfl) (by rw [w1]; show 0 + d2 < 12; omega) (mEx.rf hI0)
        · rw [clp (by omega), w2]; decide
    | succ f ih =>
      intro k n b o4 a1 a2 a3 a4 a5 a6
      have hl := mLv_lt t2 t4 a1
      rcases (hrow k a1).1 with ⟨w1, w2, w3⟩ | ⟨w0, d2, p2, w1, w2, w3, w4, w5, w6⟩ | ⟨w0, e2, w1, w2, -⟩ | ⟨w0, d2, n2, g2, o2, w1, w2, w3, w4, w5, w6, w7, w8, w9⟩
      · refine sM_13_27 ⟨inN hl (by decide), fun _ => ⟨fun _ => ?_, fun c => absurd c ?_⟩, fun c => absurd c ?_⟩
        · exact L5 n n b _ k h ts T (Nat.le_refl _) a3 a4 (mEx.rf hI0) a1 (by rw [Nat.sub_self, ← a5, w2]; rfl)
        · rw [clp (by omega), w3, show (5 : Int32) = nI 5 from rfl, neN (by split <;> omega) (by omega)]; split <;> omega
        · rw [clp (by omega), w3, show (3 : Int32) = nI 3 from rfl, neN (by split <;> omega) (by omega)]; split <;> omega
      · obtain ⟨-, -, -, -, hb⟩ := hdec d2 w5
        obtain ⟨b1, b2⟩ := hb p2 w6
        obtain ⟨-, -, -, -, hbl⟩ := dw4 d2 w5
        obtain ⟨bl1, bl2, bl3⟩ := hbl p2
        refine sM_13_27 ⟨inN hl (by decide), fun c => absurd ?_ c, fun _ => ?_⟩
        · rw [clp (by omega), w2]
        · rw [clp (by omega), w3, w4, mul3, show (3 : Int32) * nI (3 * d2 + p2) = nI (3 * (3 * d2 + p2)) from by rw [show (3 : Int32) = nI 3 from rfl, pk_mul], clp (by omega), clp (by omega), b1]
          refine ⟨inN (by omega) (by decide), fun c => ?_, fun c => ⟨inN (by omega) (by decide), ?_⟩⟩
          · rw [show (0 : Int32) = nI 0 from rfl, leN (by omega) (by omega)] at c
            have hnil : dsB D d2 p2 = [] := List.length_eq_zero_iff.mp (by omega)
            refine ih 10 n b _ (Or.inl (by omega)) (by rw [h10]; decide) a3 a4 ?_ (fun e q hh => by rw [h10] at hh; simp [obT, tC, tV] at hh)
            rw [← a5, w1, h10]
            show _ = evT D (f + 1) d2 p2
            simp only [evT, hnil]
            show brT (dsO D) 12 0 = obT
            rw [brT_step dw3 (by omega), dw5]; rfl
          · rw [show (0 : Int32) = nI 0 from rfl, leN (by omega) (by omega)] at c
            obtain ⟨B, Bs, hB⟩ : ∃ B Bs, dsB D d2 p2 = B :: Bs := by
              cases hh : dsB D d2 p2 with
              | nil => rw [hh] at c; simp at c
              | cons B Bs => exact ⟨B, Bs, rfl⟩
            obtain ⟨kb, z1, z2, z3⟩ := b2 0 B (by rw [hB]; rfl)
            rw [Nat.add_zero] at z2
            rw [z2]
            obtain ⟨-, hshape⟩ := bl3 B (by rw [hB]; exact List.mem_cons_self)
            have hev : ebT D (f + 1) (ts k) = evT D (f + 1) d2 p2 := by rw [w1]; rfl
            rcases hshape with ⟨e, o, aa, bb, cc, hC, -⟩ | ⟨-, q, hV⟩
            · refine ih kb n b _ (Or.inl z1) (by rw [z3, hC]; simp [tC, foT]) a3 a4 ?_ (fun e q hh => by rw [z3, hC] at hh; simp [tC, tV] at hh)
              rw [← a5, hev, z3]
              simp only [evT, hB, hC, tC, ebT]
            · refine ih kb n b _ (Or.inl z1) (by rw [z3, hV]; simp [tV, foT]) a3 a4 ?_ (fun e q' hh => ?_)
              · rw [← a5, hev, z3]
                simp only [evT, hB, hV, tV, ebT]
              · rw [z3, hV, tV_inj] at hh
                have r1 := dw8 d2 p2 q w5 (by rw [hB, ← hV]; exact List.mem_cons_self)
                have r2 := a6 d2 p2 w1
                rw [← hh.1, ← hh.2]; omega
      · rw [w1] at a2; simp [tA, foT] at a2
      · refine sM_13_27 ⟨inN hl (by decide), fun _ => ⟨fun c => absurd ?_ c, fun _ => ?_⟩, fun c => absurd c ?_⟩
        · rw [clp (by omega), w2]
        · exact L3 k k n 0 b (fun _ => d2) h (Nat.le_refl _) a1 (by rw [w1]; rfl) a3 a4 (by rw [← a5, w1]; rfl) (fun q hq => by omega) (fun q hq => by omega) (by rw [w1]; rfl) (by rw [w1]; show 0 + d2 < 12; omega) (mEx.rf hI0)
        · rw [clp (by omega), w2]; decide
  -- the ARRAYS
  have L1 : ∀ (f k n : Nat), k ≤ f → mLv m T k → n + k ≤ x → ts x = nA n (ts k) → RM (d - 1) 13 (fun r h' => ∃ k, r = some (.int (nI k)) ∧ mRes Z D fE fB0 h ts m T nd (erT D (ts x)) k h') 4 [some (.ref 0), some (.int (nI x)), some (.int (nI k)), some (.int (nI n)), none] [] h := by
    intro f
    induction f with
    | zero =>
      intro k n a0 a1 a2 a3
      have hl := mLv_lt t2 t4 a1
      rcases (hrow k a1).1 with ⟨w1, w2, w3⟩ | ⟨w0, -⟩ | ⟨w0, -⟩ | ⟨w0, -⟩
      · refine sM_13_4 ⟨inN hl (by decide), fun _ => L2 4 k n (ts k) none a1 ?_ (by omega) a3 (by rw [w2]; rfl) (fun e q hh => by rw [w2] at hh; simp [tP, tV] at hh), fun c => absurd c ?_⟩
        · rw [w2]; simp only [tP, foT]; split
          · omega
          · split <;> omega
        · rw [clp (by omega), w3, show (4 : Int32) = nI 4 from rfl, neN (by split <;> omega) (by omega)]; split <;> omega
      · omega
      · omega
      · omega
    | succ f ih =>
      intro k n a0 a1 a2 a3
      have hl := mLv_lt t2 t4 a1
      rcases (hrow k a1).1 with ⟨w1, w2, w3⟩ | ⟨w0, d2, p2, w1, w2, -⟩ | ⟨w0, e2, w1, w2, w3, w4, w5⟩ | ⟨w0, d2, n2, g2, o2, w1, w2, -⟩
      · refine sM_13_4 ⟨inN hl (by decide), fun _ => L2 4 k n (ts k) none a1 ?_ (by omega) a3 (by rw [w2]; rfl) (fun e q hh => by rw [w2] at hh; simp [tP, tV] at hh), fun c => absurd c ?_⟩
        · rw [w2]; simp only [tP, foT]; split
          · omega
          · split <;> omega
        · rw [clp (by omega), w3, show (4 : Int32) = nI 4 from rfl, neN (by split <;> omega) (by omega)]; split <;> omega
      · refine sM_13_4 ⟨inN hl (by decide), fun _ => L2 4 k n (ts k) none a1 ?_ (by omega) a3 (by rw [w1]; rfl) (fun e q hh => ?_), fun c => absurd c ?_⟩
        · rw [w1]; simp [tV, foT]
        · have := dw7 e q; omega
        · rw [clp (by omega), w2]; decide
      · refine sM_13_4 ⟨inN hl (by decide), fun c => absurd ?_ c, fun _ => ?_⟩
        · rw [clp (by omega), w2]
        · rw [clp (by omega), w3, nI_1]
          exact ih e2 (n + 1) (by omega) w5 (by omega) (by rw [a3, w1, nA_succ])
      · refine sM_13_4 ⟨inN hl (by decide), fun _ => L2 4 k n (ts k) none a1 ?_ (by omega) a3 (by rw [w1]; rfl) (fun e q hh => by rw [w1] at hh; simp [tC, tV] at hh), fun c => absurd c ?_⟩
        · rw [w1]; simp [tC, foT]
        · rw [clp (by omega), w2]; decide
  exact L1 x x 0 (Nat.le_refl _) hx (by omega) rfl
